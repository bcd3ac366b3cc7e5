section
-- ===== PART A: goes FIRST, ahead of the names: the tables' words, and 'selects' of the private methods out of them =====
/-- a private method of a class that the tables say can be made, by its rows of tables_1 -/
def lw_okq (q : MethodName × Nat) : Prop := (q.1.cls ≠ "java/lang/invoke/MethodHandle" ∧ q.1.cls ≠ "java/lang/invoke/VarHandle") ∧ Cond.instantiable q.1.cls q.2 ∈ tables_1 ∧ Cond.privateMethod q.1 ∈ tables_1 ∧ Cond.instanceMethod q.1 ∈ tables_1
theorem lw_p0 : lw_okq (⟨"FarthestPays$Company", "slipAlone", "(III)I"⟩, 5) := ⟨⟨by decide +kernel, by decide +kernel⟩, List.mem_of_getElem? (i := 38) (by decide +kernel), List.mem_of_getElem? (i := 229) (by decide +kernel), List.mem_of_getElem? (i := 230) (by decide +kernel)⟩
theorem lw_p1 : lw_okq (⟨"FarthestPays$Tape", "begin", "()V"⟩, 4) := ⟨⟨by decide +kernel, by decide +kernel⟩, List.mem_of_getElem? (i := 92) (by decide +kernel), List.mem_of_getElem? (i := 281) (by decide +kernel), List.mem_of_getElem? (i := 282) (by decide +kernel)⟩
theorem lw_p2 : lw_okq (⟨"FarthestPays$Tape", "readDish", "(LFarthestPays$Supper;)V"⟩, 4) := ⟨⟨by decide +kernel, by decide +kernel⟩, List.mem_of_getElem? (i := 92) (by decide +kernel), List.mem_of_getElem? (i := 285) (by decide +kernel), List.mem_of_getElem? (i := 286) (by decide +kernel)⟩
theorem lw_p3 : lw_okq (⟨"FarthestPays$Tape", "skipBlanks", "()V"⟩, 4) := ⟨⟨by decide +kernel, by decide +kernel⟩, List.mem_of_getElem? (i := 92) (by decide +kernel), List.mem_of_getElem? (i := 289) (by decide +kernel), List.mem_of_getElem? (i := 290) (by decide +kernel)⟩
theorem lw_p4 : lw_okq (⟨"FarthestPays$Tape", "readNumber", "(II)I"⟩, 4) := ⟨⟨by decide +kernel, by decide +kernel⟩, List.mem_of_getElem? (i := 92) (by decide +kernel), List.mem_of_getElem? (i := 293) (by decide +kernel), List.mem_of_getElem? (i := 294) (by decide +kernel)⟩
theorem lw_p5 : lw_okq (⟨"FarthestPays$Tape", "faultAt", "(I)V"⟩, 4) := ⟨⟨by decide +kernel, by decide +kernel⟩, List.mem_of_getElem? (i := 92) (by decide +kernel), List.mem_of_getElem? (i := 303) (by decide +kernel), List.mem_of_getElem? (i := 304) (by decide +kernel)⟩
theorem lw_p6 : lw_okq (⟨"FarthestPays$Tape", "readSign", "(I)V"⟩, 4) := ⟨⟨by decide +kernel, by decide +kernel⟩, List.mem_of_getElem? (i := 92) (by decide +kernel), List.mem_of_getElem? (i := 308) (by decide +kernel), List.mem_of_getElem? (i := 309) (by decide +kernel)⟩
theorem lw_p7 : lw_okq (⟨"FarthestPays$Tape", "next", "()I"⟩, 4) := ⟨⟨by decide +kernel, by decide +kernel⟩, List.mem_of_getElem? (i := 92) (by decide +kernel), List.mem_of_getElem? (i := 312) (by decide +kernel), List.mem_of_getElem? (i := 313) (by decide +kernel)⟩
theorem lw_p8 : lw_okq (⟨"FarthestPays$Tape", "goesOn", "(IZ)Z"⟩, 4) := ⟨⟨by decide +kernel, by decide +kernel⟩, List.mem_of_getElem? (i := 92) (by decide +kernel), List.mem_of_getElem? (i := 317) (by decide +kernel), List.mem_of_getElem? (i := 318) (by decide +kernel)⟩
theorem lw_p9 : lw_okq (⟨"FarthestPays$Tape", "readGuest", "(LFarthestPays$Company;)V"⟩, 4) := ⟨⟨by decide +kernel, by decide +kernel⟩, List.mem_of_getElem? (i := 92) (by decide +kernel), List.mem_of_getElem? (i := 340) (by decide +kernel), List.mem_of_getElem? (i := 341) (by decide +kernel)⟩
theorem lw_p10 : lw_okq (⟨"FarthestPays$Tape", "readKind", "()I"⟩, 4) := ⟨⟨by decide +kernel, by decide +kernel⟩, List.mem_of_getElem? (i := 92) (by decide +kernel), List.mem_of_getElem? (i := 344) (by decide +kernel), List.mem_of_getElem? (i := 345) (by decide +kernel)⟩
theorem lw_p11 : lw_okq (⟨"FarthestPays$Company", "placeOf", "(I)I"⟩, 5) := ⟨⟨by decide +kernel, by decide +kernel⟩, List.mem_of_getElem? (i := 38) (by decide +kernel), List.mem_of_getElem? (i := 385) (by decide +kernel), List.mem_of_getElem? (i := 386) (by decide +kernel)⟩
theorem lw_p12 : lw_okq (⟨"FarthestPays$Company", "shareOfTwo", "(II)I"⟩, 5) := ⟨⟨by decide +kernel, by decide +kernel⟩, List.mem_of_getElem? (i := 38) (by decide +kernel), List.mem_of_getElem? (i := 393) (by decide +kernel), List.mem_of_getElem? (i := 394) (by decide +kernel)⟩
theorem lw_p13 : lw_okq (⟨"FarthestPays$Company", "shareOfMost", "(III)I"⟩, 5) := ⟨⟨by decide +kernel, by decide +kernel⟩, List.mem_of_getElem? (i := 38) (by decide +kernel), List.mem_of_getElem? (i := 400) (by decide +kernel), List.mem_of_getElem? (i := 401) (by decide +kernel)⟩
theorem lw_p14 : lw_okq (⟨"FarthestPays$Table", "betterSlip", "(I)I"⟩, 3) := ⟨⟨by decide +kernel, by decide +kernel⟩, List.mem_of_getElem? (i := 21) (by decide +kernel), List.mem_of_getElem? (i := 458) (by decide +kernel), List.mem_of_getElem? (i := 459) (by decide +kernel)⟩
theorem lw_p15 : lw_okq (⟨"FarthestPays", "areThree", "(III)Z"⟩, 7) := ⟨⟨by decide +kernel, by decide +kernel⟩, List.mem_of_getElem? (i := 13) (by decide +kernel), List.mem_of_getElem? (i := 480) (by decide +kernel), List.mem_of_getElem? (i := 481) (by decide +kernel)⟩
def lw_privs_1 : List (MethodName × Nat) := [(⟨"FarthestPays$Company", "slipAlone", "(III)I"⟩, 5), (⟨"FarthestPays$Tape", "begin", "()V"⟩, 4), (⟨"FarthestPays$Tape", "readDish", "(LFarthestPays$Supper;)V"⟩, 4), (⟨"FarthestPays$Tape", "skipBlanks", "()V"⟩, 4), (⟨"FarthestPays$Tape", "readNumber", "(II)I"⟩, 4), (⟨"FarthestPays$Tape", "faultAt", "(I)V"⟩, 4), (⟨"FarthestPays$Tape", "readSign", "(I)V"⟩, 4), (⟨"FarthestPays$Tape", "next", "()I"⟩, 4), (⟨"FarthestPays$Tape", "goesOn", "(IZ)Z"⟩, 4), (⟨"FarthestPays$Tape", "readGuest", "(LFarthestPays$Company;)V"⟩, 4), (⟨"FarthestPays$Tape", "readKind", "()I"⟩, 4), (⟨"FarthestPays$Company", "placeOf", "(I)I"⟩, 5), (⟨"FarthestPays$Company", "shareOfTwo", "(II)I"⟩, 5), (⟨"FarthestPays$Company", "shareOfMost", "(III)I"⟩, 5), (⟨"FarthestPays$Table", "betterSlip", "(I)I"⟩, 3), (⟨"FarthestPays", "areThree", "(III)Z"⟩, 7)]
theorem lw_r1 : ∀ q ∈ lw_privs_1, lw_okq q := List.forall_mem_cons.mpr ⟨lw_p0, List.forall_mem_cons.mpr ⟨lw_p1, List.forall_mem_cons.mpr ⟨lw_p2, List.forall_mem_cons.mpr ⟨lw_p3, List.forall_mem_cons.mpr ⟨lw_p4, List.forall_mem_cons.mpr ⟨lw_p5, List.forall_mem_cons.mpr ⟨lw_p6, List.forall_mem_cons.mpr ⟨lw_p7, List.forall_mem_cons.mpr ⟨lw_p8, List.forall_mem_cons.mpr ⟨lw_p9, List.forall_mem_cons.mpr ⟨lw_p10, List.forall_mem_cons.mpr ⟨lw_p11, List.forall_mem_cons.mpr ⟨lw_p12, List.forall_mem_cons.mpr ⟨lw_p13, List.forall_mem_cons.mpr ⟨lw_p14, List.forall_mem_cons.mpr ⟨lw_p15, fun _ h => absurd h List.not_mem_nil⟩⟩⟩⟩⟩⟩⟩⟩⟩⟩⟩⟩⟩⟩⟩⟩
theorem lw_p16 : lw_okq (⟨"FarthestPays$Table", "putPair", "(III)V"⟩, 3) := ⟨⟨by decide +kernel, by decide +kernel⟩, List.mem_of_getElem? (i := 21) (by decide +kernel), List.mem_of_getElem? (i := 490) (by decide +kernel), List.mem_of_getElem? (i := 491) (by decide +kernel)⟩
theorem lw_p17 : lw_okq (⟨"FarthestPays$Table", "burdenByPair", "(IIII)J"⟩, 3) := ⟨⟨by decide +kernel, by decide +kernel⟩, List.mem_of_getElem? (i := 21) (by decide +kernel), List.mem_of_getElem? (i := 503) (by decide +kernel), List.mem_of_getElem? (i := 504) (by decide +kernel)⟩
theorem lw_p18 : lw_okq (⟨"FarthestPays$Nights", "alwaysKnew", "(I)Z"⟩, 3) := ⟨⟨by decide +kernel, by decide +kernel⟩, List.mem_of_getElem? (i := 60) (by decide +kernel), List.mem_of_getElem? (i := 546) (by decide +kernel), List.mem_of_getElem? (i := 547) (by decide +kernel)⟩
theorem lw_p19 : lw_okq (⟨"FarthestPays$Nights", "alwaysPaid", "(I)Z"⟩, 3) := ⟨⟨by decide +kernel, by decide +kernel⟩, List.mem_of_getElem? (i := 60) (by decide +kernel), List.mem_of_getElem? (i := 560) (by decide +kernel), List.mem_of_getElem? (i := 561) (by decide +kernel)⟩
theorem lw_p20 : lw_okq (⟨"FarthestPays$Nights", "alwaysBetween", "(III)Z"⟩, 3) := ⟨⟨by decide +kernel, by decide +kernel⟩, List.mem_of_getElem? (i := 60) (by decide +kernel), List.mem_of_getElem? (i := 566) (by decide +kernel), List.mem_of_getElem? (i := 567) (by decide +kernel)⟩
theorem lw_p21 : lw_okq (⟨"FarthestPays$Sheet", "narrowed", "(J)J"⟩, 3) := ⟨⟨by decide +kernel, by decide +kernel⟩, List.mem_of_getElem? (i := 116) (by decide +kernel), List.mem_of_getElem? (i := 659) (by decide +kernel), List.mem_of_getElem? (i := 660) (by decide +kernel)⟩
theorem lw_p22 : lw_okq (⟨"FarthestPaysModel", "add", "(II)V"⟩, 23) := ⟨⟨by decide +kernel, by decide +kernel⟩, List.mem_of_getElem? (i := 667) (by decide +kernel), List.mem_of_getElem? (i := 760) (by decide +kernel), List.mem_of_getElem? (i := 761) (by decide +kernel)⟩
theorem lw_p23 : lw_okq (⟨"FarthestPaysModel", "isGuest", "(I)Z"⟩, 23) := ⟨⟨by decide +kernel, by decide +kernel⟩, List.mem_of_getElem? (i := 667) (by decide +kernel), List.mem_of_getElem? (i := 768) (by decide +kernel), List.mem_of_getElem? (i := 769) (by decide +kernel)⟩
theorem lw_p24 : lw_okq (⟨"FarthestPaysModel", "allWeights", "()I"⟩, 23) := ⟨⟨by decide +kernel, by decide +kernel⟩, List.mem_of_getElem? (i := 667) (by decide +kernel), List.mem_of_getElem? (i := 776) (by decide +kernel), List.mem_of_getElem? (i := 777) (by decide +kernel)⟩
theorem lw_p25 : lw_okq (⟨"FarthestPaysModel", "readSupper", "()Z"⟩, 23) := ⟨⟨by decide +kernel, by decide +kernel⟩, List.mem_of_getElem? (i := 667) (by decide +kernel), List.mem_of_getElem? (i := 805) (by decide +kernel), List.mem_of_getElem? (i := 806) (by decide +kernel)⟩
theorem lw_p26 : lw_okq (⟨"FarthestPaysModel", "readCourse", "()Z"⟩, 23) := ⟨⟨by decide +kernel, by decide +kernel⟩, List.mem_of_getElem? (i := 667) (by decide +kernel), List.mem_of_getElem? (i := 809) (by decide +kernel), List.mem_of_getElem? (i := 810) (by decide +kernel)⟩
theorem lw_p27 : lw_okq (⟨"FarthestPaysModel", "nextByte", "()I"⟩, 23) := ⟨⟨by decide +kernel, by decide +kernel⟩, List.mem_of_getElem? (i := 667) (by decide +kernel), List.mem_of_getElem? (i := 813) (by decide +kernel), List.mem_of_getElem? (i := 814) (by decide +kernel)⟩
theorem lw_p28 : lw_okq (⟨"FarthestPaysModel", "readNumber", "(II)I"⟩, 23) := ⟨⟨by decide +kernel, by decide +kernel⟩, List.mem_of_getElem? (i := 667) (by decide +kernel), List.mem_of_getElem? (i := 817) (by decide +kernel), List.mem_of_getElem? (i := 818) (by decide +kernel)⟩
theorem lw_p29 : lw_okq (⟨"FarthestPaysModel", "readGuests", "()Z"⟩, 23) := ⟨⟨by decide +kernel, by decide +kernel⟩, List.mem_of_getElem? (i := 667) (by decide +kernel), List.mem_of_getElem? (i := 827) (by decide +kernel), List.mem_of_getElem? (i := 828) (by decide +kernel)⟩
theorem lw_p30 : lw_okq (⟨"FarthestPaysModel", "readGuest", "(I)Z"⟩, 23) := ⟨⟨by decide +kernel, by decide +kernel⟩, List.mem_of_getElem? (i := 667) (by decide +kernel), List.mem_of_getElem? (i := 831) (by decide +kernel), List.mem_of_getElem? (i := 832) (by decide +kernel)⟩
theorem lw_p31 : lw_okq (⟨"FarthestPaysModel", "payers", "(I)I"⟩, 23) := ⟨⟨by decide +kernel, by decide +kernel⟩, List.mem_of_getElem? (i := 667) (by decide +kernel), List.mem_of_getElem? (i := 839) (by decide +kernel), List.mem_of_getElem? (i := 840) (by decide +kernel)⟩
def lw_privs_2 : List (MethodName × Nat) := [(⟨"FarthestPays$Table", "putPair", "(III)V"⟩, 3), (⟨"FarthestPays$Table", "burdenByPair", "(IIII)J"⟩, 3), (⟨"FarthestPays$Nights", "alwaysKnew", "(I)Z"⟩, 3), (⟨"FarthestPays$Nights", "alwaysPaid", "(I)Z"⟩, 3), (⟨"FarthestPays$Nights", "alwaysBetween", "(III)Z"⟩, 3), (⟨"FarthestPays$Sheet", "narrowed", "(J)J"⟩, 3), (⟨"FarthestPaysModel", "add", "(II)V"⟩, 23), (⟨"FarthestPaysModel", "isGuest", "(I)Z"⟩, 23), (⟨"FarthestPaysModel", "allWeights", "()I"⟩, 23), (⟨"FarthestPaysModel", "readSupper", "()Z"⟩, 23), (⟨"FarthestPaysModel", "readCourse", "()Z"⟩, 23), (⟨"FarthestPaysModel", "nextByte", "()I"⟩, 23), (⟨"FarthestPaysModel", "readNumber", "(II)I"⟩, 23), (⟨"FarthestPaysModel", "readGuests", "()Z"⟩, 23), (⟨"FarthestPaysModel", "readGuest", "(I)Z"⟩, 23), (⟨"FarthestPaysModel", "payers", "(I)I"⟩, 23)]
theorem lw_r2 : ∀ q ∈ lw_privs_2, lw_okq q := List.forall_mem_cons.mpr ⟨lw_p16, List.forall_mem_cons.mpr ⟨lw_p17, List.forall_mem_cons.mpr ⟨lw_p18, List.forall_mem_cons.mpr ⟨lw_p19, List.forall_mem_cons.mpr ⟨lw_p20, List.forall_mem_cons.mpr ⟨lw_p21, List.forall_mem_cons.mpr ⟨lw_p22, List.forall_mem_cons.mpr ⟨lw_p23, List.forall_mem_cons.mpr ⟨lw_p24, List.forall_mem_cons.mpr ⟨lw_p25, List.forall_mem_cons.mpr ⟨lw_p26, List.forall_mem_cons.mpr ⟨lw_p27, List.forall_mem_cons.mpr ⟨lw_p28, List.forall_mem_cons.mpr ⟨lw_p29, List.forall_mem_cons.mpr ⟨lw_p30, List.forall_mem_cons.mpr ⟨lw_p31, fun _ h => absurd h List.not_mem_nil⟩⟩⟩⟩⟩⟩⟩⟩⟩⟩⟩⟩⟩⟩⟩⟩
theorem lw_p32 : lw_okq (⟨"FarthestPaysModel", "firstOff", "(II)I"⟩, 23) := ⟨⟨by decide +kernel, by decide +kernel⟩, List.mem_of_getElem? (i := 667) (by decide +kernel), List.mem_of_getElem? (i := 843) (by decide +kernel), List.mem_of_getElem? (i := 844) (by decide +kernel)⟩
theorem lw_p33 : lw_okq (⟨"FarthestPaysModel", "off", "(II)I"⟩, 23) := ⟨⟨by decide +kernel, by decide +kernel⟩, List.mem_of_getElem? (i := 667) (by decide +kernel), List.mem_of_getElem? (i := 847) (by decide +kernel), List.mem_of_getElem? (i := 848) (by decide +kernel)⟩
theorem lw_p34 : lw_okq (⟨"FarthestPaysModel", "middle", "()I"⟩, 23) := ⟨⟨by decide +kernel, by decide +kernel⟩, List.mem_of_getElem? (i := 667) (by decide +kernel), List.mem_of_getElem? (i := 854) (by decide +kernel), List.mem_of_getElem? (i := 855) (by decide +kernel)⟩
theorem lw_p35 : lw_okq (⟨"FarthestPaysModel", "farthest", "(IIZ)I"⟩, 23) := ⟨⟨by decide +kernel, by decide +kernel⟩, List.mem_of_getElem? (i := 667) (by decide +kernel), List.mem_of_getElem? (i := 858) (by decide +kernel), List.mem_of_getElem? (i := 859) (by decide +kernel)⟩
theorem lw_p36 : lw_okq (⟨"FarthestPaysModel", "oneOf", "(I)I"⟩, 23) := ⟨⟨by decide +kernel, by decide +kernel⟩, List.mem_of_getElem? (i := 667) (by decide +kernel), List.mem_of_getElem? (i := 862) (by decide +kernel), List.mem_of_getElem? (i := 863) (by decide +kernel)⟩
theorem lw_p37 : lw_okq (⟨"FarthestPaysModel", "partsFor", "(II)I"⟩, 23) := ⟨⟨by decide +kernel, by decide +kernel⟩, List.mem_of_getElem? (i := 667) (by decide +kernel), List.mem_of_getElem? (i := 870) (by decide +kernel), List.mem_of_getElem? (i := 871) (by decide +kernel)⟩
theorem lw_p38 : lw_okq (⟨"FarthestPaysModel", "meanParts", "(I)I"⟩, 23) := ⟨⟨by decide +kernel, by decide +kernel⟩, List.mem_of_getElem? (i := 667) (by decide +kernel), List.mem_of_getElem? (i := 890) (by decide +kernel), List.mem_of_getElem? (i := 891) (by decide +kernel)⟩
theorem lw_p39 : lw_okq (⟨"FarthestPaysModel", "bestOf", "(I)I"⟩, 23) := ⟨⟨by decide +kernel, by decide +kernel⟩, List.mem_of_getElem? (i := 667) (by decide +kernel), List.mem_of_getElem? (i := 898) (by decide +kernel), List.mem_of_getElem? (i := 899) (by decide +kernel)⟩
theorem lw_p40 : lw_okq (⟨"FarthestPaysModel", "meanBy", "(II)I"⟩, 23) := ⟨⟨by decide +kernel, by decide +kernel⟩, List.mem_of_getElem? (i := 667) (by decide +kernel), List.mem_of_getElem? (i := 902) (by decide +kernel), List.mem_of_getElem? (i := 903) (by decide +kernel)⟩
theorem lw_p41 : lw_okq (⟨"FarthestPaysModel", "isStill", "(I)Z"⟩, 23) := ⟨⟨by decide +kernel, by decide +kernel⟩, List.mem_of_getElem? (i := 667) (by decide +kernel), List.mem_of_getElem? (i := 910) (by decide +kernel), List.mem_of_getElem? (i := 911) (by decide +kernel)⟩
theorem lw_p42 : lw_okq (⟨"FarthestPaysModel", "areThree", "(III)Z"⟩, 23) := ⟨⟨by decide +kernel, by decide +kernel⟩, List.mem_of_getElem? (i := 667) (by decide +kernel), List.mem_of_getElem? (i := 923) (by decide +kernel), List.mem_of_getElem? (i := 924) (by decide +kernel)⟩
theorem lw_p43 : lw_okq (⟨"FarthestPaysModel", "leagueOf", "(III)I"⟩, 23) := ⟨⟨by decide +kernel, by decide +kernel⟩, List.mem_of_getElem? (i := 667) (by decide +kernel), List.mem_of_getElem? (i := 927) (by decide +kernel), List.mem_of_getElem? (i := 928) (by decide +kernel)⟩
theorem lw_p44 : lw_okq (⟨"FarthestPaysModel", "wasThere", "(I)Z"⟩, 23) := ⟨⟨by decide +kernel, by decide +kernel⟩, List.mem_of_getElem? (i := 667) (by decide +kernel), List.mem_of_getElem? (i := 955) (by decide +kernel), List.mem_of_getElem? (i := 956) (by decide +kernel)⟩
theorem lw_p45 : lw_okq (⟨"FarthestPaysModel", "areLeague", "(III)Z"⟩, 23) := ⟨⟨by decide +kernel, by decide +kernel⟩, List.mem_of_getElem? (i := 667) (by decide +kernel), List.mem_of_getElem? (i := 963) (by decide +kernel), List.mem_of_getElem? (i := 964) (by decide +kernel)⟩
theorem lw_p46 : lw_okq (⟨"FarthestPaysModel", "carried", "(IIZ)I"⟩, 23) := ⟨⟨by decide +kernel, by decide +kernel⟩, List.mem_of_getElem? (i := 667) (by decide +kernel), List.mem_of_getElem? (i := 975) (by decide +kernel), List.mem_of_getElem? (i := 976) (by decide +kernel)⟩
theorem lw_p47 : lw_okq (⟨"FarthestPaysModel", "lacksRow", "(IIII)I"⟩, 23) := ⟨⟨by decide +kernel, by decide +kernel⟩, List.mem_of_getElem? (i := 667) (by decide +kernel), List.mem_of_getElem? (i := 998) (by decide +kernel), List.mem_of_getElem? (i := 999) (by decide +kernel)⟩
def lw_privs_3 : List (MethodName × Nat) := [(⟨"FarthestPaysModel", "firstOff", "(II)I"⟩, 23), (⟨"FarthestPaysModel", "off", "(II)I"⟩, 23), (⟨"FarthestPaysModel", "middle", "()I"⟩, 23), (⟨"FarthestPaysModel", "farthest", "(IIZ)I"⟩, 23), (⟨"FarthestPaysModel", "oneOf", "(I)I"⟩, 23), (⟨"FarthestPaysModel", "partsFor", "(II)I"⟩, 23), (⟨"FarthestPaysModel", "meanParts", "(I)I"⟩, 23), (⟨"FarthestPaysModel", "bestOf", "(I)I"⟩, 23), (⟨"FarthestPaysModel", "meanBy", "(II)I"⟩, 23), (⟨"FarthestPaysModel", "isStill", "(I)Z"⟩, 23), (⟨"FarthestPaysModel", "areThree", "(III)Z"⟩, 23), (⟨"FarthestPaysModel", "leagueOf", "(III)I"⟩, 23), (⟨"FarthestPaysModel", "wasThere", "(I)Z"⟩, 23), (⟨"FarthestPaysModel", "areLeague", "(III)Z"⟩, 23), (⟨"FarthestPaysModel", "carried", "(IIZ)I"⟩, 23), (⟨"FarthestPaysModel", "lacksRow", "(IIII)I"⟩, 23)]
theorem lw_r3 : ∀ q ∈ lw_privs_3, lw_okq q := List.forall_mem_cons.mpr ⟨lw_p32, List.forall_mem_cons.mpr ⟨lw_p33, List.forall_mem_cons.mpr ⟨lw_p34, List.forall_mem_cons.mpr ⟨lw_p35, List.forall_mem_cons.mpr ⟨lw_p36, List.forall_mem_cons.mpr ⟨lw_p37, List.forall_mem_cons.mpr ⟨lw_p38, List.forall_mem_cons.mpr ⟨lw_p39, List.forall_mem_cons.mpr ⟨lw_p40, List.forall_mem_cons.mpr ⟨lw_p41, List.forall_mem_cons.mpr ⟨lw_p42, List.forall_mem_cons.mpr ⟨lw_p43, List.forall_mem_cons.mpr ⟨lw_p44, List.forall_mem_cons.mpr ⟨lw_p45, List.forall_mem_cons.mpr ⟨lw_p46, List.forall_mem_cons.mpr ⟨lw_p47, fun _ h => absurd h List.not_mem_nil⟩⟩⟩⟩⟩⟩⟩⟩⟩⟩⟩⟩⟩⟩⟩⟩
def lw_privs : List (MethodName × Nat) := lw_privs_1 ++ (lw_privs_2 ++ (lw_privs_3))
def lw_tbl : List Cond := k2_sels lw_privs ++ tables_1
theorem lw_privs_ok : ∀ q ∈ lw_privs, lw_okq q := by
  show ∀ q ∈ lw_privs_1 ++ (lw_privs_2 ++ (lw_privs_3)), lw_okq q
  exact List.forall_mem_append.mpr ⟨lw_r1, List.forall_mem_append.mpr ⟨lw_r2, lw_r3⟩⟩
def RX0 : String := "FarthestPays$Company"
def TX0 : u_T := fun k => match k with
  | 0 => ("FarthestPays$Company", "kinds", "[I", true)
  | 1 => ("FarthestPays$Company", "slips", "[I", true)
  | 2 => ("FarthestPays$Company", "size", "I", false)
  | 3 => ("FarthestPays$Company", "who", "I", false)
  | _ => ("FarthestPays$Company", "ties", "I", false)
def tyX0 : Nat → FieldType := fun k => match k with
  | 0 => .array .int
  | 1 => .array .int
  | 2 => .int
  | 3 => .int
  | _ => .int
abbrev wsX00 : List Cond := u_ws RX0 TX0 5
theorem nmX0 : ∀ a, a < 5 → ∀ b, b < 5 → a ≠ b → (TX0 a).2.1 ≠ (TX0 b).2.1 := by decide +kernel
theorem tyX0_ok : ∀ k, k < 5 → parseFieldDescriptor (TX0 k).2.2.1 = some (tyX0 k) := by decide +kernel
abbrev cX0_init : ByteArray := prog_2_method_1_code
def yX0_init : MethodName := ⟨RX0, "<init>", "()V"⟩
abbrev cX0_size : ByteArray := prog_2_method_2_code
def yX0_size : MethodName := ⟨RX0, "size", "()I"⟩
abbrev cX0_has : ByteArray := prog_2_method_3_code
def yX0_has : MethodName := ⟨RX0, "has", "(I)Z"⟩
abbrev cX0_kindOf : ByteArray := prog_2_method_4_code
def yX0_kindOf : MethodName := ⟨RX0, "kindOf", "(I)I"⟩
abbrev cX0_isNought : ByteArray := prog_2_method_5_code
def yX0_isNought : MethodName := ⟨RX0, "isNought", "(I)Z"⟩
abbrev cX0_slipOf : ByteArray := prog_2_method_6_code
def yX0_slipOf : MethodName := ⟨RX0, "slipOf", "(I)I"⟩
abbrev cX0_putSlip : ByteArray := prog_2_method_7_code
def yX0_putSlip : MethodName := ⟨RX0, "putSlip", "(II)V"⟩
abbrev cX0_seat : ByteArray := prog_2_method_8_code
def yX0_seat : MethodName := ⟨RX0, "seat", "(II)V"⟩
abbrev cX0_clear : ByteArray := prog_2_method_9_code
def yX0_clear : MethodName := ⟨RX0, "clear", "()V"⟩
abbrev cX0_changeWho : ByteArray := prog_2_method_10_code
def yX0_changeWho : MethodName := ⟨RX0, "changeWho", "(I)I"⟩
abbrev cX0_changeTies : ByteArray := prog_2_method_11_code
def yX0_changeTies : MethodName := ⟨RX0, "changeTies", "(I)I"⟩
abbrev cX0_seatAll : ByteArray := prog_2_method_12_code
def yX0_seatAll : MethodName := ⟨RX0, "seatAll", "(LFarthestPays$Company;)V"⟩
abbrev cX0_copyFrom : ByteArray := prog_2_method_13_code
def yX0_copyFrom : MethodName := ⟨RX0, "copyFrom", "(LFarthestPays$Company;)V"⟩
abbrev cX0_writeAlone : ByteArray := prog_2_method_14_code
def yX0_writeAlone : MethodName := ⟨RX0, "writeAlone", "(II)I"⟩
abbrev cX0_slipAlone : ByteArray := prog_2_method_15_code
def yX0_slipAlone : MethodName := ⟨RX0, "slipAlone", "(III)I"⟩
abbrev cX0_due : ByteArray := prog_2_method_16_code
def yX0_due : MethodName := ⟨RX0, "due", "(II)I"⟩
abbrev cX0_payers : ByteArray := prog_2_method_17_code
def yX0_payers : MethodName := ⟨RX0, "payers", "(I)I"⟩
abbrev cX0_freeGuest : ByteArray := prog_2_method_18_code
def yX0_freeGuest : MethodName := ⟨RX0, "freeGuest", "()I"⟩
abbrev cX0_placeOf : ByteArray := prog_2_method_19_code
def yX0_placeOf : MethodName := ⟨RX0, "placeOf", "(I)I"⟩
abbrev cX0_share : ByteArray := prog_2_method_20_code
def yX0_share : MethodName := ⟨RX0, "share", "(III)I"⟩
abbrev cX0_shareOfTwo : ByteArray := prog_2_method_21_code
def yX0_shareOfTwo : MethodName := ⟨RX0, "shareOfTwo", "(II)I"⟩
abbrev cX0_shareOfMost : ByteArray := prog_2_method_22_code
def yX0_shareOfMost : MethodName := ⟨RX0, "shareOfMost", "(III)I"⟩
abbrev cX0_isBetween : ByteArray := prog_2_method_23_code
def yX0_isBetween : MethodName := ⟨RX0, "isBetween", "(III)Z"⟩
def RX1 : String := "FarthestPays$Nights"
def TX1 : u_T := fun k => match k with
  | 0 => ("FarthestPays$Nights", "sums", "[I", true)
  | 1 => ("FarthestPays$Nights", "companies", "[LFarthestPays$Company;", true)
  | _ => ("FarthestPays$Nights", "size", "I", false)
def tyX1 : Nat → FieldType := fun k => match k with
  | 0 => .array .int
  | 1 => .array (.object "FarthestPays$Company")
  | _ => .int
abbrev wsX10 : List Cond := u_ws RX1 TX1 3
theorem nmX1 : ∀ a, a < 3 → ∀ b, b < 3 → a ≠ b → (TX1 a).2.1 ≠ (TX1 b).2.1 := by decide +kernel
theorem tyX1_ok : ∀ k, k < 3 → parseFieldDescriptor (TX1 k).2.2.1 = some (tyX1 k) := by decide +kernel
abbrev cX1_init : ByteArray := prog_3_method_1_code
def yX1_init : MethodName := ⟨RX1, "<init>", "()V"⟩
abbrev cX1_size : ByteArray := prog_3_method_2_code
def yX1_size : MethodName := ⟨RX1, "size", "()I"⟩
abbrev cX1_clear : ByteArray := prog_3_method_3_code
def yX1_clear : MethodName := ⟨RX1, "clear", "()V"⟩
abbrev cX1_append : ByteArray := prog_3_method_4_code
def yX1_append : MethodName := ⟨RX1, "append", "(ILFarthestPays$Company;)V"⟩
abbrev cX1_copyFrom : ByteArray := prog_3_method_5_code
def yX1_copyFrom : MethodName := ⟨RX1, "copyFrom", "(LFarthestPays$Nights;)V"⟩
abbrev cX1_knowers : ByteArray := prog_3_method_6_code
def yX1_knowers : MethodName := ⟨RX1, "knowers", "()I"⟩
abbrev cX1_alwaysKnew : ByteArray := prog_3_method_7_code
def yX1_alwaysKnew : MethodName := ⟨RX1, "alwaysKnew", "(I)Z"⟩
abbrev cX1_pairsAgainst : ByteArray := prog_3_method_8_code
def yX1_pairsAgainst : MethodName := ⟨RX1, "pairsAgainst", "(I)I"⟩
abbrev cX1_firstPairAgainst : ByteArray := prog_3_method_9_code
def yX1_firstPairAgainst : MethodName := ⟨RX1, "firstPairAgainst", "(I)I"⟩
abbrev cX1_alwaysPaid : ByteArray := prog_3_method_10_code
def yX1_alwaysPaid : MethodName := ⟨RX1, "alwaysPaid", "(I)Z"⟩
abbrev cX1_alwaysBetween : ByteArray := prog_3_method_11_code
def yX1_alwaysBetween : MethodName := ⟨RX1, "alwaysBetween", "(III)Z"⟩
def RX2 : String := "FarthestPays$Sheet"
def TX2 : u_T := fun k => match k with
  | 0 => ("FarthestPays$Sheet", "items", "[J", true)
  | 1 => ("FarthestPays$Sheet", "lane", "I", false)
  | _ => ("FarthestPays$Sheet", "size", "I", false)
def tyX2 : Nat → FieldType := fun k => match k with
  | 0 => .array .long
  | 1 => .int
  | _ => .int
abbrev wsX20 : List Cond := u_ws RX2 TX2 3
theorem nmX2 : ∀ a, a < 3 → ∀ b, b < 3 → a ≠ b → (TX2 a).2.1 ≠ (TX2 b).2.1 := by decide +kernel
theorem tyX2_ok : ∀ k, k < 3 → parseFieldDescriptor (TX2 k).2.2.1 = some (tyX2 k) := by decide +kernel
abbrev cX2_init : ByteArray := prog_4_method_1_code
def yX2_init : MethodName := ⟨RX2, "<init>", "()V"⟩
abbrev cX2_isMissing : ByteArray := prog_4_method_2_code
def yX2_isMissing : MethodName := ⟨RX2, "isMissing", "()Z"⟩
abbrev cX2_size : ByteArray := prog_4_method_3_code
def yX2_size : MethodName := ⟨RX2, "size", "()I"⟩
abbrev cX2_begin : ByteArray := prog_4_method_4_code
def yX2_begin : MethodName := ⟨RX2, "begin", "(II)V"⟩
abbrev cX2_end : ByteArray := prog_4_method_5_code
def yX2_end : MethodName := ⟨RX2, "end", "()V"⟩
abbrev cX2_refusal : ByteArray := prog_4_method_6_code
def yX2_refusal : MethodName := ⟨RX2, "refusal", "(III)I"⟩
abbrev cX2_itemAt : ByteArray := prog_4_method_7_code
def yX2_itemAt : MethodName := ⟨RX2, "itemAt", "(I)J"⟩
abbrev cX2_put : ByteArray := prog_4_method_8_code
def yX2_put : MethodName := ⟨RX2, "put", "(IJ)V"⟩
abbrev cX2_narrowed : ByteArray := prog_4_method_9_code
def yX2_narrowed : MethodName := ⟨RX2, "narrowed", "(J)J"⟩
abbrev cX2_weightsTogether : ByteArray := prog_4_method_10_code
def yX2_weightsTogether : MethodName := ⟨RX2, "weightsTogether", "(II)J"⟩
def RX3 : String := "FarthestPays$Supper"
def TX3 : u_T := fun k => match k with
  | _ => ("FarthestPays$Supper", "weights", "[I", true)
def tyX3 : Nat → FieldType := fun k => match k with
  | _ => .array .int
abbrev wsX30 : List Cond := u_ws RX3 TX3 1
theorem nmX3 : ∀ a, a < 1 → ∀ b, b < 1 → a ≠ b → (TX3 a).2.1 ≠ (TX3 b).2.1 := by decide +kernel
theorem tyX3_ok : ∀ k, k < 1 → parseFieldDescriptor (TX3 k).2.2.1 = some (tyX3 k) := by decide +kernel
abbrev cX3_init : ByteArray := prog_5_method_1_code
def yX3_init : MethodName := ⟨RX3, "<init>", "()V"⟩
abbrev cX3_weightOf : ByteArray := prog_5_method_2_code
def yX3_weightOf : MethodName := ⟨RX3, "weightOf", "(I)I"⟩
abbrev cX3_putWeight : ByteArray := prog_5_method_3_code
def yX3_putWeight : MethodName := ⟨RX3, "putWeight", "(II)V"⟩
abbrev cX3_clear : ByteArray := prog_5_method_4_code
def yX3_clear : MethodName := ⟨RX3, "clear", "()V"⟩
abbrev cX3_copyFrom : ByteArray := prog_5_method_5_code
def yX3_copyFrom : MethodName := ⟨RX3, "copyFrom", "(LFarthestPays$Supper;)V"⟩
abbrev cX3_together : ByteArray := prog_5_method_6_code
def yX3_together : MethodName := ⟨RX3, "together", "()I"⟩
abbrev cX3_sumsOfWeight : ByteArray := prog_5_method_7_code
def yX3_sumsOfWeight : MethodName := ⟨RX3, "sumsOfWeight", "()I"⟩
abbrev cX3_weighed : ByteArray := prog_5_method_8_code
def yX3_weighed : MethodName := ⟨RX3, "weighed", "()I"⟩
abbrev cX3_meanSum : ByteArray := prog_5_method_9_code
def yX3_meanSum : MethodName := ⟨RX3, "meanSum", "()I"⟩
def RX4 : String := "FarthestPays$Table"
def TX4 : u_T := fun k => match k with
  | 0 => ("FarthestPays$Table", "supper", "LFarthestPays$Supper;", true)
  | 1 => ("FarthestPays$Table", "company", "LFarthestPays$Company;", true)
  | _ => ("FarthestPays$Table", "nights", "LFarthestPays$Nights;", true)
def tyX4 : Nat → FieldType := fun k => match k with
  | 0 => .object "FarthestPays$Supper"
  | 1 => .object "FarthestPays$Company"
  | _ => .object "FarthestPays$Nights"
abbrev wsX40 : List Cond := u_ws RX4 TX4 3
theorem nmX4 : ∀ a, a < 3 → ∀ b, b < 3 → a ≠ b → (TX4 a).2.1 ≠ (TX4 b).2.1 := by decide +kernel
theorem tyX4_ok : ∀ k, k < 3 → parseFieldDescriptor (TX4 k).2.2.1 = some (tyX4 k) := by decide +kernel
abbrev cX4_init : ByteArray := prog_6_method_1_code
def yX4_init : MethodName := ⟨RX4, "<init>", "()V"⟩
abbrev cX4_copyFrom : ByteArray := prog_6_method_2_code
def yX4_copyFrom : MethodName := ⟨RX4, "copyFrom", "(LFarthestPays$Table;)V"⟩
abbrev cX4_burden : ByteArray := prog_6_method_3_code
def yX4_burden : MethodName := ⟨RX4, "burden", "(I)J"⟩
abbrev cX4_wholeBurden : ByteArray := prog_6_method_4_code
def yX4_wholeBurden : MethodName := ⟨RX4, "wholeBurden", "()J"⟩
abbrev cX4_burdenBy : ByteArray := prog_6_method_5_code
def yX4_burdenBy : MethodName := ⟨RX4, "burdenBy", "(II)J"⟩
abbrev cX4_lightestSlip : ByteArray := prog_6_method_6_code
def yX4_lightestSlip : MethodName := ⟨RX4, "lightestSlip", "(I)I"⟩
abbrev cX4_betterSlip : ByteArray := prog_6_method_7_code
def yX4_betterSlip : MethodName := ⟨RX4, "betterSlip", "(I)I"⟩
abbrev cX4_nobodyWouldChange : ByteArray := prog_6_method_8_code
def yX4_nobodyWouldChange : MethodName := ⟨RX4, "nobodyWouldChange", "()Z"⟩
abbrev cX4_takeTurns : ByteArray := prog_6_method_9_code
def yX4_takeTurns : MethodName := ⟨RX4, "takeTurns", "(I)I"⟩
abbrev cX4_hardestPair : ByteArray := prog_6_method_10_code
def yX4_hardestPair : MethodName := ⟨RX4, "hardestPair", "(IIIJ)I"⟩
abbrev cX4_putPair : ByteArray := prog_6_method_11_code
def yX4_putPair : MethodName := ⟨RX4, "putPair", "(III)V"⟩
abbrev cX4_burdenByPair : ByteArray := prog_6_method_12_code
def yX4_burdenByPair : MethodName := ⟨RX4, "burdenByPair", "(IIII)J"⟩
abbrev cX4_safestSlip : ByteArray := prog_6_method_13_code
def yX4_safestSlip : MethodName := ⟨RX4, "safestSlip", "(III)I"⟩
def RX5 : String := "FarthestPays$Tape"
def TX5 : u_T := fun k => match k with
  | 0 => ("FarthestPays$Tape", "bytes", "[I", true)
  | 1 => ("FarthestPays$Tape", "size", "I", false)
  | 2 => ("FarthestPays$Tape", "at", "I", false)
  | _ => ("FarthestPays$Tape", "fault", "I", false)
def tyX5 : Nat → FieldType := fun k => match k with
  | 0 => .array .int
  | 1 => .int
  | 2 => .int
  | _ => .int
abbrev wsX50 : List Cond := u_ws RX5 TX5 4
theorem nmX5 : ∀ a, a < 4 → ∀ b, b < 4 → a ≠ b → (TX5 a).2.1 ≠ (TX5 b).2.1 := by decide +kernel
theorem tyX5_ok : ∀ k, k < 4 → parseFieldDescriptor (TX5 k).2.2.1 = some (tyX5 k) := by decide +kernel
abbrev cX5_init : ByteArray := prog_7_method_1_code
def yX5_init : MethodName := ⟨RX5, "<init>", "()V"⟩
abbrev cX5_size : ByteArray := prog_7_method_2_code
def yX5_size : MethodName := ⟨RX5, "size", "()I"⟩
abbrev cX5_append : ByteArray := prog_7_method_3_code
def yX5_append : MethodName := ⟨RX5, "append", "(I)V"⟩
abbrev cX5_takeSupper : ByteArray := prog_7_method_4_code
def yX5_takeSupper : MethodName := ⟨RX5, "takeSupper", "(LFarthestPays$Supper;)I"⟩
abbrev cX5_takeGuests : ByteArray := prog_7_method_5_code
def yX5_takeGuests : MethodName := ⟨RX5, "takeGuests", "(LFarthestPays$Company;)I"⟩
abbrev cX5_readDish : ByteArray := prog_7_method_6_code
def yX5_readDish : MethodName := ⟨RX5, "readDish", "(LFarthestPays$Supper;)V"⟩
abbrev cX5_readGuest : ByteArray := prog_7_method_7_code
def yX5_readGuest : MethodName := ⟨RX5, "readGuest", "(LFarthestPays$Company;)V"⟩
abbrev cX5_readKind : ByteArray := prog_7_method_8_code
def yX5_readKind : MethodName := ⟨RX5, "readKind", "()I"⟩
abbrev cX5_kindBy : ByteArray := prog_7_method_9_code
def yX5_kindBy : MethodName := ⟨RX5, "kindBy", "(I)I"⟩
abbrev cX5_begin : ByteArray := prog_7_method_10_code
def yX5_begin : MethodName := ⟨RX5, "begin", "()V"⟩
abbrev cX5_faultAt : ByteArray := prog_7_method_11_code
def yX5_faultAt : MethodName := ⟨RX5, "faultAt", "(I)V"⟩
abbrev cX5_skipBlanks : ByteArray := prog_7_method_12_code
def yX5_skipBlanks : MethodName := ⟨RX5, "skipBlanks", "()V"⟩
abbrev cX5_next : ByteArray := prog_7_method_13_code
def yX5_next : MethodName := ⟨RX5, "next", "()I"⟩
abbrev cX5_isFigure : ByteArray := prog_7_method_14_code
def yX5_isFigure : MethodName := ⟨RX5, "isFigure", "(I)Z"⟩
abbrev cX5_readSign : ByteArray := prog_7_method_15_code
def yX5_readSign : MethodName := ⟨RX5, "readSign", "(I)V"⟩
abbrev cX5_readNumber : ByteArray := prog_7_method_16_code
def yX5_readNumber : MethodName := ⟨RX5, "readNumber", "(II)I"⟩
abbrev cX5_goesOn : ByteArray := prog_7_method_17_code
def yX5_goesOn : MethodName := ⟨RX5, "goesOn", "(IZ)Z"⟩
def RX6 : String := "FarthestPays"
def TX6 : u_T := fun k => match k with
  | 0 => ("FarthestPays", "now", "LFarthestPays$Table;", true)
  | 1 => ("FarthestPays", "kept", "LFarthestPays$Table;", true)
  | 2 => ("FarthestPays", "hasImage", "Z", false)
  | 3 => ("FarthestPays", "tape", "LFarthestPays$Tape;", true)
  | 4 => ("FarthestPays", "readSupper", "LFarthestPays$Supper;", true)
  | 5 => ("FarthestPays", "readCompany", "LFarthestPays$Company;", true)
  | _ => ("FarthestPays", "sheets", "[LFarthestPays$Sheet;", true)
def tyX6 : Nat → FieldType := fun k => match k with
  | 0 => .object "FarthestPays$Table"
  | 1 => .object "FarthestPays$Table"
  | 2 => .boolean
  | 3 => .object "FarthestPays$Tape"
  | 4 => .object "FarthestPays$Supper"
  | 5 => .object "FarthestPays$Company"
  | _ => .array (.object "FarthestPays$Sheet")
abbrev wsX60 : List Cond := u_ws RX6 TX6 7
theorem nmX6 : ∀ a, a < 7 → ∀ b, b < 7 → a ≠ b → (TX6 a).2.1 ≠ (TX6 b).2.1 := by decide +kernel
theorem tyX6_ok : ∀ k, k < 7 → parseFieldDescriptor (TX6 k).2.2.1 = some (tyX6 k) := by decide +kernel
abbrev cX6_init : ByteArray := prog_1_method_1_code
def yX6_init : MethodName := ⟨RX6, "<init>", "()V"⟩
abbrev cX6_weight : ByteArray := prog_1_method_2_code
def yX6_weight : MethodName := ⟨RX6, "weight", "(II)I"⟩
abbrev cX6_guest : ByteArray := prog_1_method_3_code
def yX6_guest : MethodName := ⟨RX6, "guest", "(I)I"⟩
abbrev cX6_slip : ByteArray := prog_1_method_4_code
def yX6_slip : MethodName := ⟨RX6, "slip", "(II)I"⟩
abbrev cX6_write : ByteArray := prog_1_method_5_code
def yX6_write : MethodName := ⟨RX6, "write", "(I)I"⟩
abbrev cX6_told : ByteArray := prog_1_method_6_code
def yX6_told : MethodName := ⟨RX6, "told", "(II)I"⟩
abbrev cX6_rule : ByteArray := prog_1_method_7_code
def yX6_rule : MethodName := ⟨RX6, "rule", "(II)I"⟩
abbrev cX6_type : ByteArray := prog_1_method_8_code
def yX6_type : MethodName := ⟨RX6, "type", "(JI)I"⟩
abbrev cX6_supper : ByteArray := prog_1_method_9_code
def yX6_supper : MethodName := ⟨RX6, "supper", "()I"⟩
abbrev cX6_guests : ByteArray := prog_1_method_10_code
def yX6_guests : MethodName := ⟨RX6, "guests", "()I"⟩
abbrev cX6_count : ByteArray := prog_1_method_11_code
def yX6_count : MethodName := ⟨RX6, "count", "(I)I"⟩
abbrev cX6_pay : ByteArray := prog_1_method_12_code
def yX6_pay : MethodName := ⟨RX6, "pay", "(I)I"⟩
abbrev cX6_pays : ByteArray := prog_1_method_13_code
def yX6_pays : MethodName := ⟨RX6, "pays", "(III)I"⟩
abbrev cX6_mean : ByteArray := prog_1_method_14_code
def yX6_mean : MethodName := ⟨RX6, "mean", "(II)J"⟩
abbrev cX6_best : ByteArray := prog_1_method_15_code
def yX6_best : MethodName := ⟨RX6, "best", "(I)I"⟩
abbrev cX6_still : ByteArray := prog_1_method_16_code
def yX6_still : MethodName := ⟨RX6, "still", "()I"⟩
abbrev cX6_turns : ByteArray := prog_1_method_17_code
def yX6_turns : MethodName := ⟨RX6, "turns", "(I)I"⟩
abbrev cX6_league : ByteArray := prog_1_method_18_code
def yX6_league : MethodName := ⟨RX6, "league", "(IIII)I"⟩
abbrev cX6_shun : ByteArray := prog_1_method_19_code
def yX6_shun : MethodName := ⟨RX6, "shun", "(III)I"⟩
abbrev cX6_host : ByteArray := prog_1_method_20_code
def yX6_host : MethodName := ⟨RX6, "host", "(II)I"⟩
abbrev cX6_choice : ByteArray := prog_1_method_21_code
def yX6_choice : MethodName := ⟨RX6, "choice", "(I)I"⟩
abbrev cX6_night : ByteArray := prog_1_method_22_code
def yX6_night : MethodName := ⟨RX6, "night", "(I)I"⟩
abbrev cX6_knew : ByteArray := prog_1_method_23_code
def yX6_knew : MethodName := ⟨RX6, "knew", "()I"⟩
abbrev cX6_leagues : ByteArray := prog_1_method_24_code
def yX6_leagues : MethodName := ⟨RX6, "leagues", "(II)I"⟩
abbrev cX6_forget : ByteArray := prog_1_method_25_code
def yX6_forget : MethodName := ⟨RX6, "forget", "()I"⟩
abbrev cX6_image : ByteArray := prog_1_method_26_code
def yX6_image : MethodName := ⟨RX6, "image", "()I"⟩
abbrev cX6_restore : ByteArray := prog_1_method_27_code
def yX6_restore : MethodName := ⟨RX6, "restore", "()I"⟩
abbrev cX6_mixed : ByteArray := prog_1_method_28_code
def yX6_mixed : MethodName := ⟨RX6, "mixed", "(IIIIII)J"⟩
abbrev cX6_sheet : ByteArray := prog_1_method_29_code
def yX6_sheet : MethodName := ⟨RX6, "sheet", "(III)I"⟩
abbrev cX6_drop : ByteArray := prog_1_method_30_code
def yX6_drop : MethodName := ⟨RX6, "drop", "(I)I"⟩
abbrev cX6_item : ByteArray := prog_1_method_31_code
def yX6_item : MethodName := ⟨RX6, "item", "(IIIJ)I"⟩
abbrev cX6_film : ByteArray := prog_1_method_32_code
def yX6_film : MethodName := ⟨RX6, "film", "(III)I"⟩
abbrev cX6_isSum : ByteArray := prog_1_method_33_code
def yX6_isSum : MethodName := ⟨RX6, "isSum", "(I)Z"⟩
abbrev cX6_isSetOfSums : ByteArray := prog_1_method_34_code
def yX6_isSetOfSums : MethodName := ⟨RX6, "isSetOfSums", "(I)Z"⟩
abbrev cX6_isPart : ByteArray := prog_1_method_35_code
def yX6_isPart : MethodName := ⟨RX6, "isPart", "(I)Z"⟩
abbrev cX6_isSheet : ByteArray := prog_1_method_36_code
def yX6_isSheet : MethodName := ⟨RX6, "isSheet", "(I)Z"⟩
abbrev cX6_isLane : ByteArray := prog_1_method_37_code
def yX6_isLane : MethodName := ⟨RX6, "isLane", "(I)Z"⟩
abbrev cX6_areThree : ByteArray := prog_1_method_38_code
def yX6_areThree : MethodName := ⟨RX6, "areThree", "(III)Z"⟩
abbrev cX6_byteOf : ByteArray := prog_1_method_39_code
def yX6_byteOf : MethodName := ⟨RX6, "byteOf", "(JI)I"⟩
abbrev cX6_isPrintable : ByteArray := prog_1_method_40_code
def yX6_isPrintable : MethodName := ⟨RX6, "isPrintable", "(JI)Z"⟩
abbrev cX6_lowest : ByteArray := prog_1_method_41_code
def yX6_lowest : MethodName := ⟨RX6, "lowest", "(JJI)J"⟩
def RX7 : String := "FarthestPaysModel"
def TX7 : u_T := fun k => match k with
  | 0 => ("FarthestPaysModel", "weights", "[I", true)
  | 1 => ("FarthestPaysModel", "kinds", "[I", true)
  | 2 => ("FarthestPaysModel", "slips", "[I", true)
  | 3 => ("FarthestPaysModel", "laws", "[I", true)
  | 4 => ("FarthestPaysModel", "many", "I", false)
  | 5 => ("FarthestPaysModel", "nightSums", "[I", true)
  | 6 => ("FarthestPaysModel", "nightMany", "[I", true)
  | 7 => ("FarthestPaysModel", "nightPaid", "[I", true)
  | 8 => ("FarthestPaysModel", "nightSlips", "[I", true)
  | 9 => ("FarthestPaysModel", "nights", "I", false)
  | 10 => ("FarthestPaysModel", "tape", "[I", true)
  | 11 => ("FarthestPaysModel", "taped", "I", false)
  | 12 => ("FarthestPaysModel", "place", "I", false)
  | 13 => ("FarthestPaysModel", "reads", "I", false)
  | 14 => ("FarthestPaysModel", "read", "[I", true)
  | 15 => ("FarthestPaysModel", "leagueParts", "I", false)
  | 16 => ("FarthestPaysModel", "isKept", "Z", false)
  | 17 => ("FarthestPaysModel", "kept", "[I", true)
  | 18 => ("FarthestPaysModel", "keptMany", "I", false)
  | 19 => ("FarthestPaysModel", "keptNights", "I", false)
  | 20 => ("FarthestPaysModel", "lanes", "[I", true)
  | 21 => ("FarthestPaysModel", "rowSizes", "[I", true)
  | _ => ("FarthestPaysModel", "items", "[J", true)
def tyX7 : Nat → FieldType := fun k => match k with
  | 0 => .array .int
  | 1 => .array .int
  | 2 => .array .int
  | 3 => .array .int
  | 4 => .int
  | 5 => .array .int
  | 6 => .array .int
  | 7 => .array .int
  | 8 => .array .int
  | 9 => .int
  | 10 => .array .int
  | 11 => .int
  | 12 => .int
  | 13 => .int
  | 14 => .array .int
  | 15 => .int
  | 16 => .boolean
  | 17 => .array .int
  | 18 => .int
  | 19 => .int
  | 20 => .array .int
  | 21 => .array .int
  | _ => .array .long
abbrev wsX70 : List Cond := u_ws RX7 TX7 23
theorem nmX7 : ∀ a, a < 23 → ∀ b, b < 23 → a ≠ b → (TX7 a).2.1 ≠ (TX7 b).2.1 := by decide +kernel
theorem tyX7_ok : ∀ k, k < 23 → parseFieldDescriptor (TX7 k).2.2.1 = some (tyX7 k) := by decide +kernel
abbrev cX7_init : ByteArray := prog_9_method_1_code
def yX7_init : MethodName := ⟨RX7, "<init>", "()V"⟩
abbrev cX7_in : ByteArray := prog_9_method_2_code
def yX7_in : MethodName := ⟨RX7, "in", "(JJJ)Z"⟩
abbrev cX7_isSum : ByteArray := prog_9_method_3_code
def yX7_isSum : MethodName := ⟨RX7, "isSum", "(J)Z"⟩
abbrev cX7_isGuest : ByteArray := prog_9_method_4_code
def yX7_isGuest : MethodName := ⟨RX7, "isGuest", "(I)Z"⟩
abbrev cX7_has : ByteArray := prog_9_method_5_code
def yX7_has : MethodName := ⟨RX7, "has", "(II)Z"⟩
abbrev cX7_ones : ByteArray := prog_9_method_6_code
def yX7_ones : MethodName := ⟨RX7, "ones", "(I)I"⟩
abbrev cX7_weight : ByteArray := prog_9_method_7_code
def yX7_weight : MethodName := ⟨RX7, "weight", "(II)I"⟩
abbrev cX7_add : ByteArray := prog_9_method_8_code
def yX7_add : MethodName := ⟨RX7, "add", "(II)V"⟩
abbrev cX7_guest : ByteArray := prog_9_method_9_code
def yX7_guest : MethodName := ⟨RX7, "guest", "(I)I"⟩
abbrev cX7_slip : ByteArray := prog_9_method_10_code
def yX7_slip : MethodName := ⟨RX7, "slip", "(II)I"⟩
abbrev cX7_allWeights : ByteArray := prog_9_method_11_code
def yX7_allWeights : MethodName := ⟨RX7, "allWeights", "()I"⟩
abbrev cX7_write : ByteArray := prog_9_method_12_code
def yX7_write : MethodName := ⟨RX7, "write", "(I)I"⟩
abbrev cX7_told : ByteArray := prog_9_method_13_code
def yX7_told : MethodName := ⟨RX7, "told", "(II)I"⟩
abbrev cX7_rule : ByteArray := prog_9_method_14_code
def yX7_rule : MethodName := ⟨RX7, "rule", "(II)I"⟩
abbrev cX7_count : ByteArray := prog_9_method_15_code
def yX7_count : MethodName := ⟨RX7, "count", "(I)I"⟩
abbrev cX7_type : ByteArray := prog_9_method_16_code
def yX7_type : MethodName := ⟨RX7, "type", "(JI)I"⟩
abbrev cX7_nextByte : ByteArray := prog_9_method_17_code
def yX7_nextByte : MethodName := ⟨RX7, "nextByte", "()I"⟩
abbrev cX7_readNumber : ByteArray := prog_9_method_18_code
def yX7_readNumber : MethodName := ⟨RX7, "readNumber", "(II)I"⟩
abbrev cX7_readCourse : ByteArray := prog_9_method_19_code
def yX7_readCourse : MethodName := ⟨RX7, "readCourse", "()Z"⟩
abbrev cX7_readSupper : ByteArray := prog_9_method_20_code
def yX7_readSupper : MethodName := ⟨RX7, "readSupper", "()Z"⟩
abbrev cX7_supper : ByteArray := prog_9_method_21_code
def yX7_supper : MethodName := ⟨RX7, "supper", "()I"⟩
abbrev cX7_readGuest : ByteArray := prog_9_method_22_code
def yX7_readGuest : MethodName := ⟨RX7, "readGuest", "(I)Z"⟩
abbrev cX7_readGuests : ByteArray := prog_9_method_23_code
def yX7_readGuests : MethodName := ⟨RX7, "readGuests", "()Z"⟩
abbrev cX7_guests : ByteArray := prog_9_method_24_code
def yX7_guests : MethodName := ⟨RX7, "guests", "()I"⟩
abbrev cX7_off : ByteArray := prog_9_method_25_code
def yX7_off : MethodName := ⟨RX7, "off", "(II)I"⟩
abbrev cX7_middle : ByteArray := prog_9_method_26_code
def yX7_middle : MethodName := ⟨RX7, "middle", "()I"⟩
abbrev cX7_farthest : ByteArray := prog_9_method_27_code
def yX7_farthest : MethodName := ⟨RX7, "farthest", "(IIZ)I"⟩
abbrev cX7_oneOf : ByteArray := prog_9_method_28_code
def yX7_oneOf : MethodName := ⟨RX7, "oneOf", "(I)I"⟩
abbrev cX7_firstOff : ByteArray := prog_9_method_29_code
def yX7_firstOff : MethodName := ⟨RX7, "firstOff", "(II)I"⟩
abbrev cX7_payers : ByteArray := prog_9_method_30_code
def yX7_payers : MethodName := ⟨RX7, "payers", "(I)I"⟩
abbrev cX7_pay : ByteArray := prog_9_method_31_code
def yX7_pay : MethodName := ⟨RX7, "pay", "(I)I"⟩
abbrev cX7_partsFor : ByteArray := prog_9_method_32_code
def yX7_partsFor : MethodName := ⟨RX7, "partsFor", "(II)I"⟩
abbrev cX7_common : ByteArray := prog_9_method_33_code
def yX7_common : MethodName := ⟨RX7, "common", "(JJ)J"⟩
abbrev cX7_part : ByteArray := prog_9_method_34_code
def yX7_part : MethodName := ⟨RX7, "part", "(JJI)J"⟩
abbrev cX7_pays : ByteArray := prog_9_method_35_code
def yX7_pays : MethodName := ⟨RX7, "pays", "(III)I"⟩
abbrev cX7_meanParts : ByteArray := prog_9_method_36_code
def yX7_meanParts : MethodName := ⟨RX7, "meanParts", "(I)I"⟩
abbrev cX7_mean : ByteArray := prog_9_method_37_code
def yX7_mean : MethodName := ⟨RX7, "mean", "(II)J"⟩
abbrev cX7_meanBy : ByteArray := prog_9_method_38_code
def yX7_meanBy : MethodName := ⟨RX7, "meanBy", "(II)I"⟩
abbrev cX7_bestOf : ByteArray := prog_9_method_39_code
def yX7_bestOf : MethodName := ⟨RX7, "bestOf", "(I)I"⟩
abbrev cX7_best : ByteArray := prog_9_method_40_code
def yX7_best : MethodName := ⟨RX7, "best", "(I)I"⟩
abbrev cX7_isStill : ByteArray := prog_9_method_41_code
def yX7_isStill : MethodName := ⟨RX7, "isStill", "(I)Z"⟩
abbrev cX7_still : ByteArray := prog_9_method_42_code
def yX7_still : MethodName := ⟨RX7, "still", "()I"⟩
abbrev cX7_turns : ByteArray := prog_9_method_43_code
def yX7_turns : MethodName := ⟨RX7, "turns", "(I)I"⟩
abbrev cX7_areThree : ByteArray := prog_9_method_44_code
def yX7_areThree : MethodName := ⟨RX7, "areThree", "(III)Z"⟩
abbrev cX7_leagueOf : ByteArray := prog_9_method_45_code
def yX7_leagueOf : MethodName := ⟨RX7, "leagueOf", "(III)I"⟩
abbrev cX7_league : ByteArray := prog_9_method_46_code
def yX7_league : MethodName := ⟨RX7, "league", "(IIII)I"⟩
abbrev cX7_shun : ByteArray := prog_9_method_47_code
def yX7_shun : MethodName := ⟨RX7, "shun", "(III)I"⟩
abbrev cX7_areSums : ByteArray := prog_9_method_48_code
def yX7_areSums : MethodName := ⟨RX7, "areSums", "(I)Z"⟩
abbrev cX7_host : ByteArray := prog_9_method_49_code
def yX7_host : MethodName := ⟨RX7, "host", "(II)I"⟩
abbrev cX7_choice : ByteArray := prog_9_method_50_code
def yX7_choice : MethodName := ⟨RX7, "choice", "(I)I"⟩
abbrev cX7_night : ByteArray := prog_9_method_51_code
def yX7_night : MethodName := ⟨RX7, "night", "(I)I"⟩
abbrev cX7_wasThere : ByteArray := prog_9_method_52_code
def yX7_wasThere : MethodName := ⟨RX7, "wasThere", "(I)Z"⟩
abbrev cX7_knew : ByteArray := prog_9_method_53_code
def yX7_knew : MethodName := ⟨RX7, "knew", "()I"⟩
abbrev cX7_areLeague : ByteArray := prog_9_method_54_code
def yX7_areLeague : MethodName := ⟨RX7, "areLeague", "(III)Z"⟩
abbrev cX7_leagues : ByteArray := prog_9_method_55_code
def yX7_leagues : MethodName := ⟨RX7, "leagues", "(II)I"⟩
abbrev cX7_forget : ByteArray := prog_9_method_56_code
def yX7_forget : MethodName := ⟨RX7, "forget", "()I"⟩
abbrev cX7_carried : ByteArray := prog_9_method_57_code
def yX7_carried : MethodName := ⟨RX7, "carried", "(IIZ)I"⟩
abbrev cX7_image : ByteArray := prog_9_method_58_code
def yX7_image : MethodName := ⟨RX7, "image", "()I"⟩
abbrev cX7_restore : ByteArray := prog_9_method_59_code
def yX7_restore : MethodName := ⟨RX7, "restore", "()I"⟩
abbrev cX7_isSheet : ByteArray := prog_9_method_60_code
def yX7_isSheet : MethodName := ⟨RX7, "isSheet", "(II)Z"⟩
abbrev cX7_asLane : ByteArray := prog_9_method_61_code
def yX7_asLane : MethodName := ⟨RX7, "asLane", "(IJ)J"⟩
abbrev cX7_sheet : ByteArray := prog_9_method_62_code
def yX7_sheet : MethodName := ⟨RX7, "sheet", "(III)I"⟩
abbrev cX7_drop : ByteArray := prog_9_method_63_code
def yX7_drop : MethodName := ⟨RX7, "drop", "(I)I"⟩
abbrev cX7_lacksRow : ByteArray := prog_9_method_64_code
def yX7_lacksRow : MethodName := ⟨RX7, "lacksRow", "(IIII)I"⟩
abbrev cX7_item : ByteArray := prog_9_method_65_code
def yX7_item : MethodName := ⟨RX7, "item", "(IIIJ)I"⟩
abbrev cX7_mixed : ByteArray := prog_9_method_66_code
def yX7_mixed : MethodName := ⟨RX7, "mixed", "(IIIIII)J"⟩
abbrev cX7_film : ByteArray := prog_9_method_67_code
def yX7_film : MethodName := ⟨RX7, "film", "(III)I"⟩
abbrev classes : List vw_C := [(RX0, TX0, 5), (RX1, TX1, 3), (RX2, TX2, 3), (RX3, TX3, 1), (RX4, TX4, 3), (RX5, TX5, 4), (RX6, TX6, 7), (RX7, TX7, 23)]
theorem inX0 : ∀ w ∈ wsX00, w ∈ lw_tbl := by decide +kernel
theorem inX1 : ∀ w ∈ wsX10, w ∈ lw_tbl := by decide +kernel
theorem inX2 : ∀ w ∈ wsX20, w ∈ lw_tbl := by decide +kernel
theorem inX3 : ∀ w ∈ wsX30, w ∈ lw_tbl := by decide +kernel
theorem inX4 : ∀ w ∈ wsX40, w ∈ lw_tbl := by decide +kernel
theorem inX5 : ∀ w ∈ wsX50, w ∈ lw_tbl := by decide +kernel
theorem inX6 : ∀ w ∈ wsX60, w ∈ lw_tbl := by decide +kernel
theorem inX7 : ∀ w ∈ wsX70, w ∈ lw_tbl := by decide +kernel
def z_tbl : List Cond := lw_tbl.filter goodWord
theorem z_good : GoodIn z_tbl z_tbl := fun w h => ⟨h, good_of_word (List.mem_filter.mp h).2⟩
theorem z_mem {w : Cond} (i : Nat) (h : lw_tbl[i]? = some w) (hg : goodWord w = true) : w ∈ z_tbl := List.mem_filter.mpr ⟨List.mem_of_getElem? h, hg⟩
theorem z_sub {ws : List Cond} (h : ∀ w ∈ ws, w ∈ lw_tbl) (hg : ws.all goodWord = true) : ∀ w ∈ ws, w ∈ z_tbl := fun w hw => List.mem_filter.mpr ⟨h w hw, List.all_eq_true.mp hg w hw⟩
theorem izX0 : ∀ w ∈ wsX00, w ∈ z_tbl := z_sub inX0 (by decide +kernel)
theorem izX1 : ∀ w ∈ wsX10, w ∈ z_tbl := z_sub inX1 (by decide +kernel)
theorem izX2 : ∀ w ∈ wsX20, w ∈ z_tbl := z_sub inX2 (by decide +kernel)
theorem izX3 : ∀ w ∈ wsX30, w ∈ z_tbl := z_sub inX3 (by decide +kernel)
theorem izX4 : ∀ w ∈ wsX40, w ∈ z_tbl := z_sub inX4 (by decide +kernel)
theorem izX5 : ∀ w ∈ wsX50, w ∈ z_tbl := z_sub inX5 (by decide +kernel)
theorem izX6 : ∀ w ∈ wsX60, w ∈ z_tbl := z_sub inX6 (by decide +kernel)
theorem izX7 : ∀ w ∈ wsX70, w ∈ z_tbl := z_sub inX7 (by decide +kernel)
end
section
/-! THE ABSTRACT MACHINE: numbers are mathematical integers, references are places in a list of cells. -/
abbrev zV : Type := Int ⊕ (Int ⊕ Nat)
abbrev zF : Type := (Int → Int) ⊕ ((Int → Int) ⊕ (Int → Nat))
abbrev zC : Type := (Nat × List zV) ⊕ (Nat × (Nat × zF))
abbrev zL : Type := List (Nat × zV)
abbrev zW : Type := List zC
abbrev zI : Type := Instr × (Nat × List Nat)
abbrev zG : Type := Nat → zL → List zV → zW → Prop
def z_a {α : Type} : List (Nat × α) → Nat → Option α
  | [], _ => none
  | q :: l, k => bif Nat.beq q.1 k then some q.2 else z_a l k
def z_g {α : Type} : List α → Nat → Option α
  | [], _ => none
  | a :: _, 0 => some a
  | _ :: l, k + 1 => z_g l k
def z_s {α : Type} : List α → Nat → α → List α
  | [], _, _ => []
  | _ :: l, 0, v => v :: l
  | a :: l, k + 1, v => a :: z_s l k v
theorem z_g_eq {α : Type} : ∀ (l : List α) (k : Nat), z_g l k = l[k]?
  | [], k => by simp [z_g]
  | a :: l, 0 => by simp [z_g]
  | a :: l, k + 1 => by simp [z_g, z_g_eq l k]
theorem z_s_eq {α : Type} : ∀ (l : List α) (k : Nat) (v : α), z_s l k v = l.set k v
  | [], k, v => by simp [z_s]
  | a :: l, 0, v => by simp [z_s]
  | a :: l, k + 1, v => by simp [z_s, z_s_eq l k v]
theorem z_a_mem {α : Type} : ∀ {l : List (Nat × α)} {k : Nat} {v : α}, z_a l k = some v → (k, v) ∈ l
  | [], k, v, h => by simp [z_a] at h
  | q :: l, k, v, h => by
    rw [z_a] at h
    cases hb : Nat.beq q.1 k with
    | true =>
      rw [hb] at h
      have e1 := Nat.eq_of_beq_eq_true hb
      have e2 : q.2 = v := by simpa using h
      have : q = (k, v) := by rw [← e1, ← e2]
      rw [← this]
      exact List.mem_cons_self
    | false =>
      rw [hb] at h
      exact List.mem_cons_of_mem _ (z_a_mem (by simpa using h))
def z_isL : zV → Bool
  | .inr (.inl _) => true
  | _ => false
def z_clash (j : Nat) (u : zV) (i : Nat) (v : zV) : Bool := Nat.beq j i || ((Nat.beq (j + 1) i && z_isL u) || (z_isL v && Nat.beq j (i + 1)))
def z_ldrop (i : Nat) (v : zV) : zL → zL
  | [] => []
  | q :: l => bif z_clash q.1 q.2 i v then z_ldrop i v l else q :: z_ldrop i v l
def z_lput (i : Nat) (v : zV) : zL → zL
  | [] => [(i, v)]
  | q :: l => bif Nat.beq q.1 i then (i, v) :: z_ldrop i v l else bif z_clash q.1 q.2 i v then z_lput i v l else q :: z_lput i v l
theorem z_ldrop_mem {i : Nat} {v : zV} {q : Nat × zV} : ∀ {l : zL}, q ∈ z_ldrop i v l → q ∈ l ∧ z_clash q.1 q.2 i v = false
  | [], h => by simp [z_ldrop] at h
  | p :: l, h => by
    rw [z_ldrop] at h
    cases hb : z_clash p.1 p.2 i v with
    | true => rw [hb] at h; have := z_ldrop_mem (l := l) h; exact ⟨List.mem_cons_of_mem _ this.1, this.2⟩
    | false =>
      rw [hb] at h
      rcases List.mem_cons.mp h with rfl | h
      · exact ⟨List.mem_cons_self, hb⟩
      · have := z_ldrop_mem (l := l) h; exact ⟨List.mem_cons_of_mem _ this.1, this.2⟩
theorem z_lput_mem {i : Nat} {v : zV} {q : Nat × zV} : ∀ {l : zL}, q ∈ z_lput i v l → q = (i, v) ∨ (q ∈ l ∧ z_clash q.1 q.2 i v = false)
  | [], h => by simp [z_lput] at h; exact Or.inl h
  | p :: l, h => by
    rw [z_lput] at h
    cases hb : Nat.beq p.1 i with
    | true =>
      rw [hb] at h
      rcases List.mem_cons.mp h with rfl | h
      · exact Or.inl rfl
      · have := z_ldrop_mem h; exact Or.inr ⟨List.mem_cons_of_mem _ this.1, this.2⟩
    | false =>
      rw [hb] at h
      cases hc : z_clash p.1 p.2 i v with
      | true =>
        rw [hc] at h
        rcases z_lput_mem (l := l) h with h | h
        · exact Or.inl h
        · exact Or.inr ⟨List.mem_cons_of_mem _ h.1, h.2⟩
      | false =>
        rw [hc] at h
        rcases List.mem_cons.mp h with rfl | h
        · exact Or.inr ⟨List.mem_cons_self, hc⟩
        · rcases z_lput_mem (l := l) h with h | h
          · exact Or.inl h
          · exact Or.inr ⟨List.mem_cons_of_mem _ h.1, h.2⟩
-- numbers
def z_and (x y : Int) : Int := (Int32.ofInt x &&& Int32.ofInt y).toInt
def z_or (x y : Int) : Int := (Int32.ofInt x ||| Int32.ofInt y).toInt
def z_xor (x y : Int) : Int := (Int32.ofInt x ^^^ Int32.ofInt y).toInt
def z_andL (x y : Int) : Int := (Int64.ofInt x &&& Int64.ofInt y).toInt
def z_orL (x y : Int) : Int := (Int64.ofInt x ||| Int64.ofInt y).toInt
def z_ushr (x y : Int) : Int := ((Int32.ofInt x).toUInt32 >>> ((Int32.ofInt y).toUInt32 &&& Int32.toUInt32 31)).toInt32.toInt
def z_lushr (x y : Int) : Int := ((Int64.ofInt x).toUInt64 >>> ((Int32.ofInt y).toInt64.toUInt64 &&& Int64.toUInt64 63)).toInt64.toInt
def z_u (f : Int → Int) (i v : Int) : Int → Int := fun j => if j = i then v else f j
-- one instruction
def z_p1 : List Nat → Nat
  | [] => 0
  | a :: _ => a
def z_1 (st : List zV) (k : Int → List zV → Prop) : Prop := match st with
  | .inl x :: r => k x r
  | _ => False
def z_2 (st : List zV) (k : Int → Int → List zV → Prop) : Prop := match st with
  | .inl y :: .inl x :: r => k x y r
  | _ => False
def z_L1 (st : List zV) (k : Int → List zV → Prop) : Prop := match st with
  | .inr (.inl x) :: r => k x r
  | _ => False
def z_L2 (st : List zV) (k : Int → Int → List zV → Prop) : Prop := match st with
  | .inr (.inl y) :: .inr (.inl x) :: r => k x y r
  | _ => False
def z_LI (st : List zV) (k : Int → Int → List zV → Prop) : Prop := match st with
  | .inl y :: .inr (.inl x) :: r => k x y r
  | _ => False
def z_B (op : ClassFile.Cond) (x y : Int) (a b : Prop) : Prop := match op with
  | .eq => (x = y → a) ∧ (¬ x = y → b)
  | .ne => (¬ x = y → a) ∧ (x = y → b)
  | .lt => (x < y → a) ∧ (y ≤ x → b)
  | .ge => (y ≤ x → a) ∧ (x < y → b)
  | .gt => (y < x → a) ∧ (x ≤ y → b)
  | .le => (x ≤ y → a) ∧ (y < x → b)
def z_swl (K : Nat → Prop) (x : Int) : Int → List Nat → Prop
  | _, [] => True
  | lo, t :: ts => (x = lo → K t) ∧ z_swl K x (lo + 1) ts
def z_sw (K : Nat → Prop) (x lo hi : Int) : List Nat → Prop
  | [] => False
  | d :: ts => ((x < lo ∨ hi < x) → K d) ∧ z_swl K x lo ts
def z_lk (K : Nat → Prop) (x : Int) (d : Nat) : List (Int × Int) → List Nat → Prop
  | [], _ => K d
  | _ :: _, [] => False
  | q :: r, t :: ts => (x = q.1 → K t) ∧ (¬ x = q.1 → z_lk K x d r ts)
def z_i (tb : List (Nat × zI)) (ft : List (Nat × (Nat × (Nat × Nat)))) (ct : List (Nat × Int) × List (Nat × Int)) (sc : Option (Nat × (Int → Int))) (Rr : Option zV → zW → Prop) (G K : zG) (pc : Nat) (ls : zL) (st : List zV) (ws : zW) (nx : Nat) (ps : List Nat) : Instr → Prop
  | .iconst n => K nx ls (.inl n :: st) ws
  | .bipush n => K nx ls (.inl n :: st) ws
  | .sipush n => K nx ls (.inl n :: st) ws
  | .lconst _ => match ps with
    | 0 :: _ => K nx ls (.inr (.inl 0) :: st) ws
    | _ => K nx ls (.inr (.inl 1) :: st) ws
  | .ldc i => match z_a ct.1 i with
    | some v => K nx ls (.inl v :: st) ws
    | none => False
  | .ldc_w i => match z_a ct.1 i with
    | some v => K nx ls (.inl v :: st) ws
    | none => False
  | .ldc2_w i => match z_a ct.2 i with
    | some v => K nx ls (.inr (.inl v) :: st) ws
    | none => False
  | .iload_n _ => match z_a ls (z_p1 ps) with
    | some (.inl x) => K nx ls (.inl x :: st) ws
    | _ => False
  | .iload _ => match z_a ls (z_p1 ps) with
    | some (.inl x) => K nx ls (.inl x :: st) ws
    | _ => False
  | .lload_n _ => match z_a ls (z_p1 ps) with
    | some (.inr (.inl x)) => K nx ls (.inr (.inl x) :: st) ws
    | _ => False
  | .lload _ => match z_a ls (z_p1 ps) with
    | some (.inr (.inl x)) => K nx ls (.inr (.inl x) :: st) ws
    | _ => False
  | .aload_n _ => match z_a ls (z_p1 ps) with
    | some (.inr (.inr x)) => K nx ls (.inr (.inr x) :: st) ws
    | _ => False
  | .aload _ => match z_a ls (z_p1 ps) with
    | some (.inr (.inr x)) => K nx ls (.inr (.inr x) :: st) ws
    | _ => False
  | .istore_n _ => z_1 st fun x r => K nx (z_lput (z_p1 ps) (.inl x) ls) r ws
  | .istore _ => z_1 st fun x r => K nx (z_lput (z_p1 ps) (.inl x) ls) r ws
  | .lstore_n _ => z_L1 st fun x r => K nx (z_lput (z_p1 ps) (.inr (.inl x)) ls) r ws
  | .lstore _ => z_L1 st fun x r => K nx (z_lput (z_p1 ps) (.inr (.inl x)) ls) r ws
  | .astore_n _ => match st with
    | .inr (.inr x) :: r => K nx (z_lput (z_p1 ps) (.inr (.inr x)) ls) r ws
    | _ => False
  | .astore _ => match st with
    | .inr (.inr x) :: r => K nx (z_lput (z_p1 ps) (.inr (.inr x)) ls) r ws
    | _ => False
  | .iinc _ d => match z_a ls (z_p1 ps) with
    | some (.inl x) => K nx (z_lput (z_p1 ps) (.inl (x + d)) ls) st ws
    | _ => False
  | .iadd => z_2 st fun x y r => K nx ls (.inl (x + y) :: r) ws
  | .isub => z_2 st fun x y r => K nx ls (.inl (x - y) :: r) ws
  | .imul => z_2 st fun x y r => K nx ls (.inl (x * y) :: r) ws
  | .iand => z_2 st fun x y r => K nx ls (.inl (z_and x y) :: r) ws
  | .ior => z_2 st fun x y r => K nx ls (.inl (z_or x y) :: r) ws
  | .ixor => z_2 st fun x y r => K nx ls (.inl (z_xor x y) :: r) ws
  | .idiv => z_2 st fun x y r => ((0 ≤ x ∧ x ≤ 2147483647) ∧ (0 < y ∧ y ≤ 2147483647)) ∧ K nx ls (.inl (x / y) :: r) ws
  | .irem => z_2 st fun x y r => ((0 ≤ x ∧ x ≤ 2147483647) ∧ (0 < y ∧ y ≤ 2147483647)) ∧ K nx ls (.inl (x % y) :: r) ws
  | .ineg => z_1 st fun x r => K nx ls (.inl (-x) :: r) ws
  | .ishl => z_2 st fun x y r => (0 ≤ y ∧ y < 32) ∧ K nx ls (.inl (x * 2 ^ y.toNat) :: r) ws
  | .ishr => z_2 st fun x y r => ((-2147483648 ≤ x ∧ x ≤ 2147483647) ∧ (0 ≤ y ∧ y < 32)) ∧ K nx ls (.inl (x / 2 ^ y.toNat) :: r) ws
  | .iushr => z_2 st fun x y r => K nx ls (.inl (z_ushr x y) :: r) ws
  | .ladd => z_L2 st fun x y r => K nx ls (.inr (.inl (x + y)) :: r) ws
  | .lsub => z_L2 st fun x y r => K nx ls (.inr (.inl (x - y)) :: r) ws
  | .lmul => z_L2 st fun x y r => K nx ls (.inr (.inl (x * y)) :: r) ws
  | .land => z_L2 st fun x y r => K nx ls (.inr (.inl (z_andL x y)) :: r) ws
  | .lor => z_L2 st fun x y r => K nx ls (.inr (.inl (z_orL x y)) :: r) ws
  | .ldiv => z_L2 st fun x y r => ((0 ≤ x ∧ x ≤ 9223372036854775807) ∧ (0 < y ∧ y ≤ 9223372036854775807)) ∧ K nx ls (.inr (.inl (x / y)) :: r) ws
  | .lrem => z_L2 st fun x y r => ((0 ≤ x ∧ x ≤ 9223372036854775807) ∧ (0 < y ∧ y ≤ 9223372036854775807)) ∧ K nx ls (.inr (.inl (x % y)) :: r) ws
  | .lshl => z_LI st fun x y r => (0 ≤ y ∧ y < 64) ∧ K nx ls (.inr (.inl ((x * 2 ^ y.toNat).bmod 18446744073709551616)) :: r) ws
  | .lshr => z_LI st fun x y r => ((-9223372036854775808 ≤ x ∧ x ≤ 9223372036854775807) ∧ (0 ≤ y ∧ y < 64)) ∧ K nx ls (.inr (.inl (x / 2 ^ y.toNat)) :: r) ws
  | .lushr => z_LI st fun x y r => K nx ls (.inr (.inl (z_lushr x y)) :: r) ws
  | .i2l => z_1 st fun x r => (-2147483648 ≤ x ∧ x ≤ 2147483647) ∧ K nx ls (.inr (.inl x) :: r) ws
  | .l2i => z_L1 st fun x r => K nx ls (.inl x :: r) ws ∨ K nx ls (.inl (x.bmod 4294967296) :: r) ws
  | .i2s => z_1 st fun x r => K nx ls (.inl (x.bmod 65536) :: r) ws
  | .lcmp => z_L2 st fun x y r => ((-9223372036854775808 ≤ x ∧ x ≤ 9223372036854775807) ∧ (-9223372036854775808 ≤ y ∧ y ≤ 9223372036854775807)) ∧ match z_a tb nx with
    | some (.ifCond op _, (nx2, ps2)) => z_B op x y (K (z_p1 ps2) ls r ws) (K nx2 ls r ws)
    | _ => False
  | .dup => match st with
    | .inl x :: r => K nx ls (.inl x :: .inl x :: r) ws
    | .inr (.inr x) :: r => K nx ls (.inr (.inr x) :: .inr (.inr x) :: r) ws
    | _ => False
  | .pop => match st with
    | .inl _ :: r => K nx ls r ws
    | .inr (.inr _) :: r => K nx ls r ws
    | _ => False
  | .goto _ => K (z_p1 ps) ls st ws
  | .ifCond op _ => z_1 st fun x r => (-2147483648 ≤ x ∧ x ≤ 2147483647) ∧ z_B op x 0 (K (z_p1 ps) ls r ws) (K nx ls r ws)
  | .if_icmp op _ => z_2 st fun x y r => ((-2147483648 ≤ x ∧ x ≤ 2147483647) ∧ (-2147483648 ≤ y ∧ y ≤ 2147483647)) ∧ z_B op x y (K (z_p1 ps) ls r ws) (K nx ls r ws)
  | .getfield i => match st with
    | .inr (.inr q) :: r => match z_g ws q with
      | some (.inl o) => match z_a ft i with
        | some t => bif Nat.beq o.1 t.1 then (match z_g o.2 t.2.1 with
          | some v => K nx ls (v :: r) ws
          | none => False) else False
        | none => False
      | _ => False
    | _ => False
  | .putfield i => match st with
    | .inl x :: .inr (.inr q) :: r => match z_g ws q with
      | some (.inl o) => match z_a ft i with
        | some t => bif Nat.beq o.1 t.1 then (bif Nat.blt t.2.1 o.2.length then (match t.2.2 with
          | 1 => K nx ls r (z_s ws q (.inl (o.1, z_s o.2 t.2.1 (.inl x))))
          | 2 => (x = 0 ∨ x = 1) ∧ K nx ls r (z_s ws q (.inl (o.1, z_s o.2 t.2.1 (.inl x))))
          | _ => False) else False) else False
        | none => False
      | _ => False
    | _ => False
  | .iaload => match st with
    | .inl i :: .inr (.inr q) :: r => match z_g ws q with
      | some (.inr (_, (n, .inl f))) => (0 ≤ i ∧ i < (n : Int) ∧ i ≤ 2147483647) ∧ K nx ls (.inl (f i) :: r) ws
      | some _ => False
      | none => match sc with
        | some b => bif Nat.beq q 9999 then ((0 ≤ i ∧ i < (b.1 : Int) ∧ i ≤ 2147483647) ∧ K nx ls (.inl (b.2 i) :: r) ws) else False
        | none => False
    | _ => False
  | .laload => match st with
    | .inl i :: .inr (.inr q) :: r => match z_g ws q with
      | some (.inr (_, (n, .inr (.inl f)))) => (0 ≤ i ∧ i < (n : Int) ∧ i ≤ 2147483647) ∧ K nx ls (.inr (.inl (f i)) :: r) ws
      | _ => False
    | _ => False
  | .aaload => match st with
    | .inl i :: .inr (.inr q) :: r => match z_g ws q with
      | some (.inr (t, (n, .inr (.inr f)))) => bif Nat.ble t 1 then ((0 ≤ i ∧ i < (n : Int) ∧ i ≤ 2147483647) ∧ K nx ls (.inr (.inr (f i)) :: r) ws) else False
      | _ => False
    | _ => False
  | .iastore => match st with
    | .inl v :: .inl i :: .inr (.inr q) :: r => match z_g ws q with
      | some (.inr (t, (n, .inl f))) => (0 ≤ i ∧ i < (n : Int) ∧ i ≤ 2147483647) ∧ K nx ls r (z_s ws q (.inr (t, (n, .inl (z_u f i v)))))
      | _ => False
    | _ => False
  | .lastore => match st with
    | .inr (.inl v) :: .inl i :: .inr (.inr q) :: r => match z_g ws q with
      | some (.inr (t, (n, .inr (.inl f)))) => (0 ≤ i ∧ i < (n : Int) ∧ i ≤ 2147483647) ∧ K nx ls r (z_s ws q (.inr (t, (n, .inr (.inl (z_u f i v))))))
      | _ => False
    | _ => False
  | .arraylength => match st with
    | .inr (.inr q) :: r => match z_g ws q with
      | some _ => False
      | none => match sc with
        | some b => bif Nat.beq q 9999 then K nx ls (.inl (b.1 : Int) :: r) ws else False
        | none => False
    | _ => False
  | .ireturn => match st with
    | [.inl x] => Rr (some (.inl x)) ws
    | _ => False
  | .lreturn => match st with
    | [.inr (.inl x)] => Rr (some (.inr (.inl x))) ws
    | _ => False
  | .return_ => match st with
    | [] => Rr none ws
    | _ => False
  | .tableswitch _ lo hi _ => z_1 st fun x r => (-2147483648 ≤ x ∧ x ≤ 2147483647) ∧ z_sw (fun t => K t ls r ws) x lo hi ps
  | .lookupswitch _ prs => z_1 st fun x r => (-2147483648 ≤ x ∧ x ≤ 2147483647) ∧ match ps with
    | d :: ts => z_lk (fun t => K t ls r ws) x d prs.toList ts
    | [] => False
  | .invokevirtual _ => G pc ls st ws
  | .invokestatic _ => G pc ls st ws
  | .invokespecial _ => G pc ls st ws
  | _ => False
def z_in (k : Nat) : List Nat → Bool
  | [] => false
  | a :: l => Nat.beq a k || z_in k l
def z_run (tb : List (Nat × zI)) (ft : List (Nat × (Nat × (Nat × Nat)))) (ct : List (Nat × Int) × List (Nat × Int)) (sc : Option (Nat × (Int → Int))) (Rr : Option zV → zW → Prop) (stops : List Nat) (G : zG) : Nat → zG
  | 0, pc, ls, st, ws => G pc ls st ws
  | n + 1, pc, ls, st, ws => match z_a tb pc with
    | none => False
    | some q => z_i tb ft ct sc Rr G (fun pc' ls' st' ws' => bif z_in pc' stops then G pc' ls' st' ws' else z_run tb ft ct sc Rr stops G n pc' ls' st' ws') pc ls st ws q.2.1 q.2.2 q.1
-- the table of a method's instructions against its bytes
def z_chk (pc nL len : Nat) (ps : List Nat) : Instr → Bool
  | .iconst _ => Nat.beq len 1
  | .bipush n => Nat.beq len 2 && (decide (-128 ≤ n) && decide (n ≤ 127))
  | .sipush n => Nat.beq len 3 && (decide (-32768 ≤ n) && decide (n ≤ 32767))
  | .lconst n => Nat.beq len 1 && (Nat.beq (n : Nat) (z_p1 ps) && !ps.isEmpty)
  | .iload_n k => Nat.beq len 1 && Nat.beq (k : Nat) (z_p1 ps)
  | .lload_n k => Nat.beq len 1 && Nat.beq (k : Nat) (z_p1 ps)
  | .aload_n k => Nat.beq len 1 && Nat.beq (k : Nat) (z_p1 ps)
  | .iload k => Nat.beq len 2 && Nat.beq k (z_p1 ps)
  | .lload k => Nat.beq len 2 && Nat.beq k (z_p1 ps)
  | .aload k => Nat.beq len 2 && Nat.beq k (z_p1 ps)
  | .istore_n k => Nat.beq len 1 && (Nat.beq (k : Nat) (z_p1 ps) && Nat.blt (z_p1 ps) nL)
  | .astore_n k => Nat.beq len 1 && (Nat.beq (k : Nat) (z_p1 ps) && Nat.blt (z_p1 ps) nL)
  | .lstore_n k => Nat.beq len 1 && (Nat.beq (k : Nat) (z_p1 ps) && Nat.blt (z_p1 ps + 1) nL)
  | .istore k => Nat.beq len 2 && (Nat.beq k (z_p1 ps) && Nat.blt (z_p1 ps) nL)
  | .astore k => Nat.beq len 2 && (Nat.beq k (z_p1 ps) && Nat.blt (z_p1 ps) nL)
  | .lstore k => Nat.beq len 2 && (Nat.beq k (z_p1 ps) && Nat.blt (z_p1 ps + 1) nL)
  | .iinc k _ => Nat.beq len 3 && (Nat.beq k (z_p1 ps) && Nat.blt (z_p1 ps) nL)
  | .goto off => Nat.beq len 3 && decide ((pc : Int) + off = (z_p1 ps : Int))
  | .ifCond _ off => Nat.beq len 3 && decide ((pc : Int) + off = (z_p1 ps : Int))
  | .if_icmp _ off => Nat.beq len 3 && decide ((pc : Int) + off = (z_p1 ps : Int))
  | .tableswitch d lo hi offs => decide (ps.map (fun t : Nat => (t : Int)) = (d :: offs.toList).map (fun o => (pc : Int) + o)) && decide (hi = lo + (offs.size : Int) - 1)
  | .lookupswitch d prs => decide (ps.map (fun t : Nat => (t : Int)) = (d :: prs.toList.map (fun q => q.2)).map (fun o => (pc : Int) + o)) && (prs.toList.zip (prs.toList.drop 1)).all (fun q => decide (q.1.1 < q.2.1))
  | .ldc _ => Nat.beq len 2
  | .ldc_w _ => Nat.beq len 3
  | .ldc2_w _ => Nat.beq len 3
  | .getfield _ => Nat.beq len 3
  | .putfield _ => Nat.beq len 3
  | .invokevirtual _ => Nat.beq len 3
  | .invokestatic _ => Nat.beq len 3
  | .invokespecial _ => Nat.beq len 3
  | .new _ => Nat.beq len 3
  | .anewarray _ => Nat.beq len 3
  | .newarray _ => Nat.beq len 2
  | _ => Nat.beq len 1
def z_ent (cc : ByteArray) (nL : Nat) (q : Nat × zI) : Bool := match decode cc q.1 with
  | .ok (i, len) => decide (i = q.2.1) && (Nat.beq q.2.2.1 (q.1 + len) && z_chk q.1 nL len q.2.2.2 q.2.1)
  | .error _ => false
theorem z_ent_spec {cc : ByteArray} {nL : Nat} {tb : List (Nat × zI)} (h : tb.all (z_ent cc nL) = true) {pc : Nat} {q : zI} (hq : z_a tb pc = some q) : ∃ len, decode cc pc = .ok (q.1, len) ∧ q.2.1 = pc + len ∧ z_chk pc nL len q.2.2 q.1 = true := by
  have h1 := List.all_eq_true.mp h _ (z_a_mem hq)
  unfold z_ent at h1
  dsimp only at h1
  cases hd : decode cc pc with
  | error x => rw [hd] at h1; cases h1
  | ok r =>
    obtain ⟨i, len⟩ := r
    rw [hd] at h1
    simp only [Bool.and_eq_true, decide_eq_true_eq] at h1
    obtain ⟨rfl, h2, h3⟩ := h1
    exact ⟨len, rfl, Nat.eq_of_beq_eq_true h2, h3⟩
end
section
/-! WHAT THE ABSTRACT MACHINE SAYS OF THE MACHINE -/
def z_nest : List Cond := [Jvm.Cond.methodLinkNest "FarthestPays" (11 : Nat) ({ cls := "FarthestPays$Table", name := "<init>", desc := "()V" } : Jvm.MethodName) "FarthestPays", Jvm.Cond.methodLinkNest "FarthestPays$Table" (11 : Nat) ({ cls := "FarthestPays$Supper", name := "<init>", desc := "()V" } : Jvm.MethodName) "FarthestPays", Jvm.Cond.methodLinkNest "FarthestPays$Table" (20 : Nat) ({ cls := "FarthestPays$Company", name := "<init>", desc := "()V" } : Jvm.MethodName) "FarthestPays", Jvm.Cond.methodLinkNest "FarthestPays$Nights" (25 : Nat) ({ cls := "FarthestPays$Company", name := "<init>", desc := "()V" } : Jvm.MethodName) "FarthestPays", Jvm.Cond.fieldLinkNest "FarthestPays" (55 : Nat) "FarthestPays$Table" "supper" "LFarthestPays$Supper;" "FarthestPays", Jvm.Cond.fieldLinkNest "FarthestPays" (66 : Nat) "FarthestPays$Table" "company" "LFarthestPays$Company;" "FarthestPays", Jvm.Cond.fieldLinkNest "FarthestPays" (136 : Nat) "FarthestPays$Table" "nights" "LFarthestPays$Nights;" "FarthestPays", Jvm.Cond.methodLinkNest "FarthestPays" (25 : Nat) ({ cls := "FarthestPays$Tape", name := "<init>", desc := "()V" } : Jvm.MethodName) "FarthestPays", Jvm.Cond.methodLinkNest "FarthestPays" (32 : Nat) ({ cls := "FarthestPays$Supper", name := "<init>", desc := "()V" } : Jvm.MethodName) "FarthestPays", Jvm.Cond.methodLinkNest "FarthestPays" (39 : Nat) ({ cls := "FarthestPays$Company", name := "<init>", desc := "()V" } : Jvm.MethodName) "FarthestPays", Jvm.Cond.methodLinkNest "FarthestPays" (50 : Nat) ({ cls := "FarthestPays$Sheet", name := "<init>", desc := "()V" } : Jvm.MethodName) "FarthestPays", Jvm.Cond.methodLinkNest "FarthestPays$Supper" (15 : Nat) ({ cls := "FarthestPays", name := "isSum", desc := "(I)Z" } : Jvm.MethodName) "FarthestPays"]
def z_N (U : State) : Prop := ∀ w ∈ z_nest, va_Nw w U
theorem z_N_same {u U : State} (h : u.vm = U.vm) (hN : z_N u) : z_N U := by
  intro w hw
  have h1 := hN w hw
  simp only [z_nest, List.mem_cons, List.not_mem_nil, or_false] at hw
  rcases hw with rfl | rfl | rfl | rfl | rfl | rfl | rfl | rfl | rfl | rfl | rfl | rfl <;> exact va_Nw.same rfl h h1
theorem z_N_warm {s U : State} (hW : s.WarmedH U.vm) (hN : z_N s) : z_N U := by
  intro w hw
  have h1 := hN w hw
  simp only [z_nest, List.mem_cons, List.not_mem_nil, or_false] at hw
  rcases hw with rfl | rfl | rfl | rfl | rfl | rfl | rfl | rfl | rfl | rfl | rfl | rfl <;> first | exact va_Nw.warmF hW h1 | exact va_Nw.warmM hW h1

def z_v (ad : Nat → Nat) : zV → Value
  | .inl x => .int (Int32.ofInt x)
  | .inr (.inl x) => .long (Int64.ofInt x)
  | .inr (.inr k) => .ref (ad k)
def z_e (ad : Nat → Nat) (cA : Nat → ClassId) : zC → va_E
  | .inl o => .inr (o.1, o.2.map (z_v ad))
  | .inr (_, (n, .inl f)) => .inl (cA 0, (n, .inl (fun j : Nat => Int32.ofInt (f (j : Int)))))
  | .inr (_, (n, .inr (.inl f))) => .inl (cA 1, (n, .inr (.inl (fun j : Nat => Int64.ofInt (f (j : Int))))))
  | .inr (t, (n, .inr (.inr f))) => .inl (cA (2 + t), (n, .inr (.inr (.inr (.inr (fun j : Nat => some (ad (f (j : Int)))))))))
def z_w (ad : Nat → Nat) (cA : Nat → ClassId) (ws : zW) : va_W := ws.mapIdx (fun k c => (ad k, z_e ad cA c))
def z_t (cA : Nat → ClassId) : List (ClassId × FieldType) := [(cA 0, .int), (cA 1, .long), (cA 2, .object RX0), (cA 3, .object RX2)]
def z_l (ad : Nat → Nat) (ls : zL) : List (Nat × Value) := ls.map (fun q => (q.1, z_v ad q.2))
theorem z_w_get (ad : Nat → Nat) (cA : Nat → ClassId) (ws : zW) (k : Nat) : (z_w ad cA ws)[k]? = (ws[k]?).map (fun c => (ad k, z_e ad cA c)) := by
  simp [z_w, List.getElem?_mapIdx]
theorem z_w_at {ad : Nat → Nat} {cA : Nat → ClassId} {ws : zW} {k : Nat} {c : zC} (h : z_g ws k = some c) : (z_w ad cA ws)[k]? = some (ad k, z_e ad cA c) := by
  rw [z_w_get, ← z_g_eq, h]; rfl
theorem z_w_set (ad : Nat → Nat) (cA : Nat → ClassId) (ws : zW) (k : Nat) (c : zC) : z_w ad cA (z_s ws k c) = (z_w ad cA ws).set k (ad k, z_e ad cA c) := by
  rw [z_s_eq]; unfold z_w; rw [List.mapIdx_set]
theorem z_w_len (ad : Nat → Nat) (cA : Nat → ClassId) (ws : zW) : (z_w ad cA ws).length = ws.length := by simp [z_w]
theorem z_s_len {α : Type} (ws : List α) (k : Nat) (c : α) : (z_s ws k c).length = ws.length := by rw [z_s_eq]; simp
theorem z_D {ad : Nat → Nat} {cA : Nat → ClassId} {A : Nat → Prop} {ws : zW} {n0 : Nat} (hl : ws.length = n0) (hi : ∀ i j : Nat, i < n0 → j < n0 → ad i = ad j → i = j) (hA : ∀ k : Nat, k < n0 → A (ad k)) : va_D A (z_w ad cA ws) := by
  have key : ∀ (k : Nat) (q : Nat × va_E), (z_w ad cA ws)[k]? = some q → k < n0 ∧ q.1 = ad k := by
    intro k q hq
    rw [z_w_get] at hq
    cases hc : ws[k]? with
    | none => rw [hc] at hq; cases hq
    | some c =>
      rw [hc] at hq
      have hk := (List.getElem?_eq_some_iff.mp hc).1
      have := Option.some.inj hq
      subst this
      exact ⟨hl ▸ hk, rfl⟩
  refine ⟨fun i j p q hp hq h => ?_, fun k q hq => ?_⟩
  · obtain ⟨a1, a2⟩ := key i p hp
    obtain ⟨b1, b2⟩ := key j q hq
    exact hi i j a1 b1 (by rw [← a2, ← b2]; exact h)
  · obtain ⟨a1, a2⟩ := key k q hq
    rw [a2]; exact hA k a1
theorem z_has_at {ad : Nat → Nat} {ls : zL} {ls' : Array Slot} {nL i : Nat} {v : zV} (h : lv_has ls' nL (z_l ad ls)) (ha : z_a ls i = some v) : ls'[i]? = some (.val (z_v ad v)) :=
  h.2.2 (i, z_v ad v) (List.mem_map.mpr ⟨(i, v), z_a_mem ha, rfl⟩)
theorem z_has_sub {ls' : Array Slot} {nL : Nat} {l l' : List (Nat × Value)} (hs : ∀ q ∈ l', q ∈ l) (h : lv_has ls' nL l) : lv_has ls' nL l' := ⟨h.1, h.2.1, fun q hq => h.2.2 q (hs q hq)⟩
theorem z_cat (ad : Nat → Nat) (v : zV) : ((z_v ad v).category == 2) = z_isL v := by
  rcases v with x | x | x <;> rfl
theorem z_beq (a b : Nat) : (a == b) = Nat.beq a b := by
  rw [Bool.eq_iff_iff]
  constructor
  · intro h; rw [eq_of_beq h]; exact Nat.beq_refl b
  · intro h; rw [Nat.eq_of_beq_eq_true h]; exact beq_self_eq_true b
theorem z_put1 {ad : Nat → Nat} {ls : zL} {i : Nat} {v : zV} (hv : z_isL v = false) : ∀ q ∈ z_l ad (z_lput i v ls), q ∈ (i, z_v ad v) :: (z_l ad ls).filter (fun q => !(q.1 == i) && !(q.1 + 1 == i && q.2.category == 2)) := by
  intro q hq
  obtain ⟨u, hu, rfl⟩ := List.mem_map.mp hq
  rcases z_lput_mem hu with rfl | ⟨h1, h2⟩
  · exact List.mem_cons_self
  · refine List.mem_cons_of_mem _ (List.mem_filter.mpr ⟨List.mem_map.mpr ⟨u, h1, rfl⟩, ?_⟩)
    dsimp only
    rw [z_cat]
    simp only [z_clash, hv, Bool.or_eq_false_iff, Bool.false_and, and_true] at h2
    have e1 : (u.1 == i) = false := by rw [z_beq]; exact h2.1
    have e2 : (u.1 + 1 == i && z_isL u.2) = false := by rw [z_beq]; exact h2.2
    rw [e1, e2]; rfl
theorem z_put2 {ad : Nat → Nat} {ls : zL} {i : Nat} {v : zV} (hv : z_isL v = true) : ∀ q ∈ z_l ad (z_lput i v ls), q ∈ (i, z_v ad v) :: (z_l ad ls).filter (fun q => !(q.1 == i) && (!(q.1 == i + 1) && !(q.1 + 1 == i && q.2.category == 2))) := by
  intro q hq
  obtain ⟨u, hu, rfl⟩ := List.mem_map.mp hq
  rcases z_lput_mem hu with rfl | ⟨h1, h2⟩
  · exact List.mem_cons_self
  · refine List.mem_cons_of_mem _ (List.mem_filter.mpr ⟨List.mem_map.mpr ⟨u, h1, rfl⟩, ?_⟩)
    dsimp only
    rw [z_cat]
    simp only [z_clash, hv, Bool.or_eq_false_iff, Bool.true_and] at h2
    have e1 : (u.1 == i) = false := by rw [z_beq]; exact h2.1
    have e2 : (u.1 + 1 == i && z_isL u.2) = false := by rw [z_beq]; exact h2.2.1
    have e3 : (u.1 == i + 1) = false := by rw [z_beq]; exact h2.2.2
    rw [e1, e2, e3]; rfl
-- numbers
theorem z_R {x : Int} (h : -2147483648 ≤ x ∧ x ≤ 2147483647) : (Int32.ofInt x).toInt = x := Int32.toInt_ofInt_of_le (by omega) (by omega)
theorem z_Q {x : Int} (h : -9223372036854775808 ≤ x ∧ x ≤ 9223372036854775807) : (Int64.ofInt x).toInt = x := Int64.toInt_ofInt_of_le (by omega) (by omega)
theorem z_req {x y : Int} (hx : -2147483648 ≤ x ∧ x ≤ 2147483647) (hy : -2147483648 ≤ y ∧ y ≤ 2147483647) : Int32.ofInt x = Int32.ofInt y ↔ x = y := by
  rw [← Int32.toInt_inj, z_R hx, z_R hy]
theorem z_rlt {x y : Int} (hx : -2147483648 ≤ x ∧ x ≤ 2147483647) (hy : -2147483648 ≤ y ∧ y ≤ 2147483647) : Int32.ofInt x < Int32.ofInt y ↔ x < y := by
  rw [Int32.lt_iff_toInt_lt, z_R hx, z_R hy]
theorem z_rle {x y : Int} (hx : -2147483648 ≤ x ∧ x ≤ 2147483647) (hy : -2147483648 ≤ y ∧ y ≤ 2147483647) : Int32.ofInt x ≤ Int32.ofInt y ↔ x ≤ y := by
  rw [Int32.le_iff_toInt_le, z_R hx, z_R hy]
theorem z_vin {i : Int} {n : Nat} (h : 0 ≤ i ∧ i < (n : Int) ∧ i ≤ 2147483647) : vp_in (Int32.ofInt i) n := by
  rw [vp_in_iff, z_R (by omega)]; exact ⟨h.1, h.2.1⟩
theorem z_cl {i : Int} {n : Nat} (h : 0 ≤ i ∧ i < (n : Int) ∧ i ≤ 2147483647) : (((Int32.ofInt i).toNatClampNeg : Nat) : Int) = i := by
  have : (Int32.ofInt i).toNatClampNeg = (Int32.ofInt i).toInt.toNat := rfl
  rw [this, z_R (by omega)]; exact Int.toNat_of_nonneg h.1
theorem z_upd {f : Int → Int} {i v : Int} {n : Nat} (h : 0 ≤ i ∧ i < (n : Int) ∧ i ≤ 2147483647) : upd (fun j : Nat => Int32.ofInt (f (j : Int))) (Int32.ofInt i).toNatClampNeg (Int32.ofInt v) = (fun j : Nat => Int32.ofInt (z_u f i v (j : Int))) := by
  funext j
  have e := z_cl h
  unfold upd z_u
  by_cases hj : j = (Int32.ofInt i).toNatClampNeg
  · rw [if_pos hj, if_pos (by rw [hj]; exact e)]
  · rw [if_neg hj, if_neg (fun q => hj (by omega))]
theorem z_updL {f : Int → Int} {i v : Int} {n : Nat} (h : 0 ≤ i ∧ i < (n : Int) ∧ i ≤ 2147483647) : vp_updL (fun j : Nat => Int64.ofInt (f (j : Int))) (Int32.ofInt i).toNatClampNeg (Int64.ofInt v) = (fun j : Nat => Int64.ofInt (z_u f i v (j : Int))) := by
  funext j
  have e := z_cl h
  unfold vp_updL z_u
  by_cases hj : j = (Int32.ofInt i).toNatClampNeg
  · rw [if_pos hj, if_pos (by rw [hj]; exact e)]
  · rw [if_neg hj, if_neg (fun q => hj (by omega))]
theorem z_div {x y : Int} (hx : 0 ≤ x ∧ x ≤ 2147483647) (hy : 0 < y ∧ y ≤ 2147483647) : Int32.ofInt x / Int32.ofInt y = Int32.ofInt (x / y) := by
  have h0 : (0 : Int) ≤ x / y := Int.ediv_nonneg hx.1 (by omega)
  have h1 : x / y ≤ x := Int.ediv_le_self _ hx.1
  have hne : Int32.ofInt y ≠ -1 := fun q => by
    have := congrArg Int32.toInt q
    rw [z_R (by omega)] at this
    have e : (-1 : Int32).toInt = -1 := by decide
    omega
  rw [← Int32.toInt_inj, Int32.toInt_div_of_ne_right _ _ hne, z_R (by omega), z_R (by omega), z_R (by omega), Int.tdiv_eq_ediv_of_nonneg hx.1]
theorem z_mod {x y : Int} (hx : 0 ≤ x ∧ x ≤ 2147483647) (hy : 0 < y ∧ y ≤ 2147483647) : Int32.ofInt x - Int32.ofInt x / Int32.ofInt y * Int32.ofInt y = Int32.ofInt (x % y) := by
  rw [z_div hx hy, ← Int32.ofInt_mul, ← Int32.ofInt_sub]
  congr 1
  have := Int.mul_ediv_add_emod x y
  rw [Int.mul_comm] at this
  omega
theorem z_divL {x y : Int} (hx : 0 ≤ x ∧ x ≤ 9223372036854775807) (hy : 0 < y ∧ y ≤ 9223372036854775807) : Int64.ofInt x / Int64.ofInt y = Int64.ofInt (x / y) := by
  have h0 : (0 : Int) ≤ x / y := Int.ediv_nonneg hx.1 (by omega)
  have h1 : x / y ≤ x := Int.ediv_le_self _ hx.1
  have hne : Int64.ofInt y ≠ -1 := fun q => by
    have := congrArg Int64.toInt q
    rw [z_Q (by omega)] at this
    have e : (-1 : Int64).toInt = -1 := by decide
    omega
  rw [← Int64.toInt_inj, Int64.toInt_div_of_ne_right _ _ hne, z_Q (by omega), z_Q (by omega), z_Q (by omega), Int.tdiv_eq_ediv_of_nonneg hx.1]
theorem z_modL {x y : Int} (hx : 0 ≤ x ∧ x ≤ 9223372036854775807) (hy : 0 < y ∧ y ≤ 9223372036854775807) : Int64.ofInt x - Int64.ofInt x / Int64.ofInt y * Int64.ofInt y = Int64.ofInt (x % y) := by
  rw [z_divL hx hy, ← Int64.ofInt_mul, ← Int64.ofInt_sub]
  congr 1
  have := Int.mul_ediv_add_emod x y
  rw [Int.mul_comm] at this
  omega
theorem z_nat {y : Int} (h : 0 ≤ y) : ∃ k : Nat, y = (k : Int) := ⟨y.toNat, (Int.toNat_of_nonneg h).symm⟩
theorem z_sml : ∀ k, k < 32 → ((Int32.ofInt (k : Nat) &&& 31).toBitVec.smod 32) = BitVec.ofNat 32 k := by decide +kernel
theorem z_smL : ∀ k, k < 64 → (((Int32.ofInt (k : Nat)).toInt64 &&& 63).toBitVec.smod 64) = BitVec.ofNat 64 k := by decide +kernel
theorem z_shl {x y : Int} (hy : 0 ≤ y ∧ y < 32) : Int32.ofInt x <<< (Int32.ofInt y &&& 31) = Int32.ofInt (x * 2 ^ y.toNat) := by
  obtain ⟨k, rfl⟩ := z_nat hy.1
  have hk : k < 32 := by omega
  apply Int32.toBitVec_inj.mp
  rw [Int32.toBitVec_shiftLeft, z_sml k hk]
  rw [Int32.ofInt_mul]
  rw [Int32.toBitVec_mul]
  have e2 : (Int32.ofInt (2 ^ (k : Int).toNat)).toBitVec = BitVec.twoPow 32 k := by
    rw [Int.toNat_natCast]
    clear hy
    revert hk; revert k; decide +kernel
  rw [e2, BitVec.mul_twoPow_eq_shiftLeft]
  rw [BitVec.shiftLeft_eq', BitVec.toNat_ofNat, Nat.mod_eq_of_lt (by omega)]
theorem z_shlL {x y : Int} (hy : 0 ≤ y ∧ y < 64) : Int64.ofInt x <<< ((Int32.ofInt y).toInt64 &&& 63) = Int64.ofInt ((x * 2 ^ y.toNat).bmod 18446744073709551616) := by
  obtain ⟨k, rfl⟩ := z_nat hy.1
  have hk : k < 64 := by omega
  have e0 : Int64.ofInt ((x * 2 ^ (k : Int).toNat).bmod 18446744073709551616) = Int64.ofInt (x * 2 ^ (k : Int).toNat) := by
    rw [← Int64.toInt_inj, Int64.toInt_ofInt, Int64.toInt_ofInt]
    exact Int.bmod_bmod
  rw [e0]
  apply Int64.toBitVec_inj.mp
  rw [Int64.toBitVec_shiftLeft, z_smL k hk]
  rw [Int64.ofInt_mul]
  rw [Int64.toBitVec_mul]
  have e2 : (Int64.ofInt (2 ^ (k : Int).toNat)).toBitVec = BitVec.twoPow 64 k := by
    rw [Int.toNat_natCast]
    clear hy e0
    revert hk; revert k; decide +kernel
  rw [e2, BitVec.mul_twoPow_eq_shiftLeft]
  rw [BitVec.shiftLeft_eq', BitVec.toNat_ofNat, Nat.mod_eq_of_lt (by omega)]
theorem z_shr {x y : Int} (hx : -2147483648 ≤ x ∧ x ≤ 2147483647) (hy : 0 ≤ y ∧ y < 32) : Int32.ofInt x >>> (Int32.ofInt y &&& 31) = Int32.ofInt (x / 2 ^ y.toNat) := by
  obtain ⟨k, rfl⟩ := z_nat hy.1
  have hk : k < 32 := by omega
  apply Int32.toInt_inj.mp
  have h1 : (Int32.ofInt x >>> (Int32.ofInt (k : Int) &&& 31)).toInt = (Int32.ofInt x).toInt >>> k := by
    apply pk_shr
    have := z_sml k hk
    rw [this, BitVec.toNat_ofNat, Nat.mod_eq_of_lt (by omega)]
  rw [h1, z_R hx, Int.toNat_natCast, Int.shiftRight_eq_div_pow]
  have hp : (0 : Int) < 2 ^ k := by exact Int.pow_pos (by omega)
  have b1 : x / 2 ^ k ≤ 2147483647 := by
    by_cases h0 : 0 ≤ x
    · have := Int.ediv_le_self (2 ^ k : Int) h0; omega
    · have := Int.ediv_neg_of_neg_of_pos (by omega : x < 0) hp; omega
  have b2 : -2147483648 ≤ x / 2 ^ k := by
    have := Int.le_ediv_of_mul_le hp (a := -2147483648) (b := x) (by
      have : (1 : Int) ≤ 2 ^ k := hp
      have h3 : (-2147483648 : Int) * 2 ^ k ≤ -2147483648 * 1 := Int.mul_le_mul_of_nonpos_left (by omega) this
      omega)
    exact this
  rw [z_R ⟨b2, b1⟩, Int.natCast_pow]
  rfl
theorem z_shrL {x y : Int} (hx : -9223372036854775808 ≤ x ∧ x ≤ 9223372036854775807) (hy : 0 ≤ y ∧ y < 64) : Int64.ofInt x >>> ((Int32.ofInt y).toInt64 &&& 63) = Int64.ofInt (x / 2 ^ y.toNat) := by
  obtain ⟨k, rfl⟩ := z_nat hy.1
  have hk : k < 64 := by omega
  apply Int64.toInt_inj.mp
  have h1 : (Int64.ofInt x >>> ((Int32.ofInt (k : Int)).toInt64 &&& 63)).toInt = (Int64.ofInt x).toInt >>> k := by
    show ((Int64.ofInt x).toBitVec.sshiftRight' _).toInt = _
    rw [z_smL k hk]
    rw [BitVec.sshiftRight_eq', BitVec.toInt_sshiftRight, BitVec.toNat_ofNat, Nat.mod_eq_of_lt (by omega)]
    rfl
  rw [h1, z_Q hx, Int.toNat_natCast, Int.shiftRight_eq_div_pow]
  have hp : (0 : Int) < 2 ^ k := by exact Int.pow_pos (by omega)
  have b1 : x / 2 ^ k ≤ 9223372036854775807 := by
    by_cases h0 : 0 ≤ x
    · have := Int.ediv_le_self (2 ^ k : Int) h0; omega
    · have := Int.ediv_neg_of_neg_of_pos (by omega : x < 0) hp; omega
  have b2 : -9223372036854775808 ≤ x / 2 ^ k := by
    have := Int.le_ediv_of_mul_le hp (a := -9223372036854775808) (b := x) (by
      have : (1 : Int) ≤ 2 ^ k := hp
      have h3 : (-9223372036854775808 : Int) * 2 ^ k ≤ -9223372036854775808 * 1 := Int.mul_le_mul_of_nonpos_left (by omega) this
      omega)
    exact this
  rw [z_Q ⟨b2, b1⟩, Int.natCast_pow]
  rfl
theorem z_i2l {x : Int} (hx : -2147483648 ≤ x ∧ x ≤ 2147483647) : (Int32.ofInt x).toInt64 = Int64.ofInt x := by
  rw [← Int64.toInt_inj, Int32.toInt_toInt64, z_R hx, z_Q (by omega)]
theorem z_i2s (x : Int) : (Int32.ofInt x).toInt16.toInt32 = Int32.ofInt (x.bmod 65536) := by
  rw [Int32.toInt16_ofInt, ← Int32.ofInt_int16ToInt, Int16.toInt_ofInt]
theorem z_lcmp {x y : Int} (hx : -9223372036854775808 ≤ x ∧ x ≤ 9223372036854775807) (hy : -9223372036854775808 ≤ y ∧ y ≤ 9223372036854775807) : lg_cmp (Int64.ofInt x) (Int64.ofInt y) = Int32.ofInt (if x < y then -1 else if x = y then 0 else 1) := by
  have e1 : (Int64.ofInt x < Int64.ofInt y) ↔ x < y := by rw [Int64.lt_iff_toInt_lt, z_Q hx, z_Q hy]
  have e2 : (Int64.ofInt x = Int64.ofInt y) ↔ x = y := by rw [← Int64.toInt_inj, z_Q hx, z_Q hy]
  have e3 : (Int64.ofInt y < Int64.ofInt x) ↔ y < x := by rw [Int64.lt_iff_toInt_lt, z_Q hx, z_Q hy]
  unfold lg_cmp
  simp only [e1, e2, e3]
  repeat' split
  all_goals first | rfl | omega
end
section
/-! SOUNDNESS: the abstract machine against the machine -/
def z_sc (sc : Option (Nat × (Int → Int))) (ad : Nat → Nat) (s : State) (A : Nat → Prop) : Prop := match sc with
  | none => True
  | some b => va_X (ad 9999) b.1 (fun j : Nat => Int32.ofInt (b.2 (j : Int))) s s.heap ∧ ad 9999 < s.heap.size ∧ ¬ A (ad 9999)
def z_X (p : Program) (s : State) (m : MethodId) (args : Array Value) (c : Code) (cc : ByteArray) (own : String) (D : va_G) (cA : Nat → ClassId) (ad : Nat → Nat) (A : Nat → Prop) (n0 nL : Nat) (sc : Option (Nat × (Int → Int))) : Prop :=
  p.tables.exec = Jvm.exec ∧ c.code = cc ∧ c.maxLocals = nL ∧ s.vm.findClass own = some m.cls ∧ (∀ w ∈ z_tbl, w.before args s = true) ∧ va_K D classes (z_t cA) s ∧ z_N s ∧ (∀ i j : Nat, i < n0 → j < n0 → ad i = ad j → i = j) ∧ (∀ k : Nat, k < n0 → A (ad k)) ∧ (∀ q : Nat, s.heap.size ≤ q → A q) ∧ z_sc sc ad s A
def z_G (p : Program) (l : Launch) (e : Env) (R : Room) (s : State) (m : MethodId) (args : Array Value) (below : List Frame) (meth : Method) (c : Code) (cells slots : Nat) (Q : State → Prop) (D : va_G) (cA : Nat → ClassId) (ad : Nat → Nat) (A : Nat → Prop) (n0 nL : Nat) : zG := fun pc ls st ws =>
  ws.length = n0 → ∀ (H : Heap) (locs : List Loc) (ls' : Array Slot), va_P D classes (z_w ad cA ws) H → va_S A s.heap H locs → lv_has ls' nL (z_l ad ls) → W p l e R s m args below meth c H locs cells slots Q (F0 m pc ls' (st.map (z_v ad)))
def z_f1 (own : String) (i : Nat) (t : Nat × (Nat × Nat)) : Prop := ∃ (C : String) (T : u_T) (N : Nat), classes[t.1]? = some (C, T, N) ∧ t.2.1 < N ∧ (∀ w ∈ u_ws C T N, w ∈ z_tbl) ∧ (T t.2.1).1 = C ∧ (Cond.fieldLink own i C (T t.2.1).2.1 (T t.2.1).2.2.1 ∈ z_tbl ∨ ∃ host, Cond.fieldLinkNest own i C (T t.2.1).2.1 (T t.2.1).2.2.1 host ∈ z_nest) ∧
  (t.2.2 ≠ 0 → Cond.fieldLink own i C (T t.2.1).2.1 (T t.2.1).2.2.1 ∈ z_tbl ∧ (T t.2.1).2.2.2 = false ∧ (∃ ty0 : Nat → FieldType, ∀ k, k < N → parseFieldDescriptor (T k).2.2.1 = some (ty0 k)) ∧ (∀ a, a < N → ∀ b, b < N → a ≠ b → (T a).2.1 ≠ (T b).2.1) ∧ ((t.2.2 = 1 ∧ parseFieldDescriptor (T t.2.1).2.2.1 = some .int) ∨ (t.2.2 = 2 ∧ parseFieldDescriptor (T t.2.1).2.2.1 = some .boolean)))
def z_fok (own : String) (ft : List (Nat × (Nat × (Nat × Nat)))) : Prop := ∀ q ∈ ft, z_f1 own q.1 q.2
def z_cok (own : String) (ct : List (Nat × Int) × List (Nat × Int)) : Prop := (∀ q ∈ ct.1, Cond.constant own q.1 (Int32.ofInt q.2) ∈ z_tbl) ∧ ∀ q ∈ ct.2, Cond.constantLong own q.1 (Int64.ofInt q.2) ∈ z_tbl
def z_RR (cc : ByteArray) (Rr : Option zV → zW → Prop) (G : zG) : Prop :=
  (∀ pc ls x ws, decode cc pc = .ok (.ireturn, 1) → Rr (some (.inl x)) ws → G pc ls [.inl x] ws) ∧
  (∀ pc ls x ws, decode cc pc = .ok (.lreturn, 1) → Rr (some (.inr (.inl x))) ws → G pc ls [.inr (.inl x)] ws) ∧
  (∀ pc ls ws, decode cc pc = .ok (.return_, 1) → Rr none ws → G pc ls [] ws)
theorem z_1e {st : List zV} {k : Int → List zV → Prop} (h : z_1 st k) : ∃ x r, st = .inl x :: r ∧ k x r := by
  unfold z_1 at h; split at h
  · exact ⟨_, _, rfl, h⟩
  · exact h.elim
theorem z_2e {st : List zV} {k : Int → Int → List zV → Prop} (h : z_2 st k) : ∃ x y r, st = .inl y :: .inl x :: r ∧ k x y r := by
  unfold z_2 at h; split at h
  · exact ⟨_, _, _, rfl, h⟩
  · exact h.elim
theorem z_L1e {st : List zV} {k : Int → List zV → Prop} (h : z_L1 st k) : ∃ x r, st = .inr (.inl x) :: r ∧ k x r := by
  unfold z_L1 at h; split at h
  · exact ⟨_, _, rfl, h⟩
  · exact h.elim
theorem z_L2e {st : List zV} {k : Int → Int → List zV → Prop} (h : z_L2 st k) : ∃ x y r, st = .inr (.inl y) :: .inr (.inl x) :: r ∧ k x y r := by
  unfold z_L2 at h; split at h
  · exact ⟨_, _, _, rfl, h⟩
  · exact h.elim
theorem z_LIe {st : List zV} {k : Int → Int → List zV → Prop} (h : z_LI st k) : ∃ x y r, st = .inl y :: .inr (.inl x) :: r ∧ k x y r := by
  unfold z_LI at h; split at h
  · exact ⟨_, _, _, rfl, h⟩
  · exact h.elim
theorem z_bif {b : Bool} {P : Prop} (h : bif b then P else False) : b = true ∧ P := by
  cases b
  · exact h.elim
  · exact ⟨rfl, h⟩
theorem z_swlE {K : Nat → Prop} {x : Int} : ∀ {ts : List Nat} {lo : Int}, z_swl K x lo ts → ∀ k : Nat, k < ts.length → x = lo + (k : Int) → ∃ t, ts[k]? = some t ∧ K t
  | [], _, _, k, hk, _ => by simp at hk
  | t :: ts, lo, h, 0, _, hx => ⟨t, rfl, h.1 (by simpa using hx)⟩
  | t :: ts, lo, h, k + 1, hk, hx => by
    obtain ⟨t', h1, h2⟩ := z_swlE h.2 k (by simpa using hk) (by push_cast at hx; omega)
    exact ⟨t', by simpa using h1, h2⟩

set_option maxHeartbeats 4000000 in
theorem z_snd {p : Program} {l : Launch} {e : Env} {R : Room} {s : State} {m : MethodId} {args : Array Value} {below : List Frame} {meth : Method} {c : Code} {cells slots : Nat} {Q : State → Prop} {cc : ByteArray} {own : String} {D : va_G} {cA : Nat → ClassId} {ad : Nat → Nat} {A : Nat → Prop} {n0 nL : Nat} {sc : Option (Nat × (Int → Int))}
    (X : z_X p s m args c cc own D cA ad A n0 nL sc) {tb : List (Nat × zI)} {ft : List (Nat × (Nat × (Nat × Nat)))} {ct : List (Nat × Int) × List (Nat × Int)} {Rr : Option zV → zW → Prop}
    (htb : tb.all (z_ent cc nL) = true) (hft : z_fok own ft) (hct : z_cok own ct) (hR : z_RR cc Rr (z_G p l e R s m args below meth c cells slots Q D cA ad A n0 nL)) {K : zG} (hKG : ∀ pc ls st ws, K pc ls st ws → z_G p l e R s m args below meth c cells slots Q D cA ad A n0 nL pc ls st ws)
    {pc : Nat} {q : zI} (hq : z_a tb pc = some q) {ls : zL} {st : List zV} {ws : zW} (h : z_i tb ft ct sc Rr (z_G p l e R s m args below meth c cells slots Q D cA ad A n0 nL) K pc ls st ws q.2.1 q.2.2 q.1) : z_G p l e R s m args below meth c cells slots Q D cA ad A n0 nL pc ls st ws := by
  obtain ⟨len, hd, hnx, hc⟩ := z_ent_spec htb hq
  obtain ⟨i, nx, ps⟩ := q
  dsimp only at hd hnx hc h
  subst hnx
  obtain ⟨hx, hb, hml, hown, hts, hK, hN, hinj, hAd, hA0, hsc⟩ := X
  have hD : ∀ {ws : zW}, ws.length = n0 → va_D A (z_w ad cA ws) := fun h1 => z_D h1 hinj hAd
  cases i
  case iconst n =>
    obtain rfl := Nat.eq_of_beq_eq_true hc
    intro hlen H locs ls' hP hS hl
    exact lv_iconst hx hb hd rfl (hKG _ _ _ _ h hlen H locs ls' hP hS hl)
  case bipush n =>
    simp only [z_chk, Bool.and_eq_true, decide_eq_true_eq] at hc
    obtain ⟨h1, h2, h3⟩ := hc
    obtain rfl := Nat.eq_of_beq_eq_true h1
    intro hlen H locs ls' hP hS hl
    refine lv_bipush hx hb hd (v := Int32.ofInt n) ?_ (hKG _ _ _ _ h hlen H locs ls' hP hS hl)
    rw [← Int32.toInt_inj, z_R (by omega)]
    show (Int8.ofInt n).toInt32.toInt = n
    rw [Int8.toInt_toInt32, Int8.toInt_ofInt_of_le (by omega) (by omega)]
  case sipush n =>
    simp only [z_chk, Bool.and_eq_true, decide_eq_true_eq] at hc
    obtain ⟨h1, h2, h3⟩ := hc
    obtain rfl := Nat.eq_of_beq_eq_true h1
    intro hlen H locs ls' hP hS hl
    refine lv_sipush hx hb hd (v := Int32.ofInt n) ?_ (hKG _ _ _ _ h hlen H locs ls' hP hS hl)
    rw [← Int32.toInt_inj, z_R (by omega)]
    show (Int16.ofInt n).toInt32.toInt = n
    rw [Int16.toInt_toInt32, Int16.toInt_ofInt_of_le (by omega) (by omega)]
  case lconst n =>
    simp only [z_chk, Bool.and_eq_true] at hc
    obtain ⟨h1, h2, h3⟩ := hc
    obtain rfl := Nat.eq_of_beq_eq_true h1
    have hn := Nat.eq_of_beq_eq_true h2
    intro hlen H locs ls' hP hS hl
    have hn2 := n.isLt
    dsimp only [z_i] at h
    split at h
    · exact lv_lconst hx hb hd (v := Int64.ofInt 0) (by rw [show (n : Nat) = 0 from hn]; rfl) (hKG _ _ _ _ h hlen H locs ls' hP hS hl)
    · rename_i hne
      have e1 : (n : Nat) = 1 := by
        cases ps with
        | nil => simp at h3
        | cons a r =>
          have : (n : Nat) = a := hn
          rcases a with _ | a
          · exact absurd rfl (hne r)
          · omega
      exact lv_lconst hx hb hd (v := Int64.ofInt 1) (by rw [e1]; rfl) (hKG _ _ _ _ h hlen H locs ls' hP hS hl)
  case ldc i =>
    obtain rfl := Nat.eq_of_beq_eq_true hc
    intro hlen H locs ls' hP hS hl
    dsimp only [z_i] at h
    split at h
    · rename_i v hv
      exact lv_ldc hx hb hown (hts _ (hct.1 _ (z_a_mem hv))) hd (hKG _ _ _ _ h hlen H locs ls' hP hS hl)
    · exact h.elim
  case ldc_w i =>
    obtain rfl := Nat.eq_of_beq_eq_true hc
    intro hlen H locs ls' hP hS hl
    dsimp only [z_i] at h
    split at h
    · rename_i v hv
      exact lv_ldcw hx hb hown (hts _ (hct.1 _ (z_a_mem hv))) hd (hKG _ _ _ _ h hlen H locs ls' hP hS hl)
    · exact h.elim
  case ldc2_w i =>
    obtain rfl := Nat.eq_of_beq_eq_true hc
    intro hlen H locs ls' hP hS hl
    dsimp only [z_i] at h
    split at h
    · rename_i v hv
      exact lv_ldc2 hx hb hown (hts _ (hct.2 _ (z_a_mem hv))) hd (hKG _ _ _ _ h hlen H locs ls' hP hS hl)
    · exact h.elim
  case iload_n n =>
    simp only [z_chk, Bool.and_eq_true] at hc
    obtain ⟨h1, h2⟩ := hc
    obtain rfl := Nat.eq_of_beq_eq_true h1
    intro hlen H locs ls' hP hS hl
    dsimp only [z_i] at h
    split at h
    · rename_i x hv
      exact lv_iload_n hx hb hd (Nat.eq_of_beq_eq_true h2) (z_has_at hl hv) (hKG _ _ _ _ h hlen H locs ls' hP hS hl)
    · exact h.elim
  case iload n =>
    simp only [z_chk, Bool.and_eq_true] at hc
    obtain ⟨h1, h2⟩ := hc
    obtain rfl := Nat.eq_of_beq_eq_true h1
    obtain rfl := Nat.eq_of_beq_eq_true h2
    intro hlen H locs ls' hP hS hl
    dsimp only [z_i] at h
    split at h
    · rename_i x hv
      exact lv_iload hx hb hd (z_has_at hl hv) (hKG _ _ _ _ h hlen H locs ls' hP hS hl)
    · exact h.elim
  case lload_n n =>
    simp only [z_chk, Bool.and_eq_true] at hc
    obtain ⟨h1, h2⟩ := hc
    obtain rfl := Nat.eq_of_beq_eq_true h1
    intro hlen H locs ls' hP hS hl
    dsimp only [z_i] at h
    split at h
    · rename_i x hv
      exact lv_lload_n hx hb hd (Nat.eq_of_beq_eq_true h2) (z_has_at hl hv) (hKG _ _ _ _ h hlen H locs ls' hP hS hl)
    · exact h.elim
  case lload n =>
    simp only [z_chk, Bool.and_eq_true] at hc
    obtain ⟨h1, h2⟩ := hc
    obtain rfl := Nat.eq_of_beq_eq_true h1
    obtain rfl := Nat.eq_of_beq_eq_true h2
    intro hlen H locs ls' hP hS hl
    dsimp only [z_i] at h
    split at h
    · rename_i x hv
      exact lv_lload hx hb hd (z_has_at hl hv) (hKG _ _ _ _ h hlen H locs ls' hP hS hl)
    · exact h.elim
  case aload_n n =>
    simp only [z_chk, Bool.and_eq_true] at hc
    obtain ⟨h1, h2⟩ := hc
    obtain rfl := Nat.eq_of_beq_eq_true h1
    intro hlen H locs ls' hP hS hl
    dsimp only [z_i] at h
    split at h
    · rename_i x hv
      exact lv_aload_n hx hb hd (Nat.eq_of_beq_eq_true h2) (z_has_at hl hv) (hKG _ _ _ _ h hlen H locs ls' hP hS hl)
    · exact h.elim
  case aload n =>
    simp only [z_chk, Bool.and_eq_true] at hc
    obtain ⟨h1, h2⟩ := hc
    obtain rfl := Nat.eq_of_beq_eq_true h1
    obtain rfl := Nat.eq_of_beq_eq_true h2
    intro hlen H locs ls' hP hS hl
    dsimp only [z_i] at h
    split at h
    · rename_i x hv
      exact lv_aload hx hb hd (z_has_at hl hv) (hKG _ _ _ _ h hlen H locs ls' hP hS hl)
    · exact h.elim
  case istore_n n =>
    simp only [z_chk, Bool.and_eq_true] at hc
    obtain ⟨h1, h2, h3⟩ := hc
    obtain rfl := Nat.eq_of_beq_eq_true h1
    intro hlen H locs ls' hP hS hl
    obtain ⟨x, r, rfl, h⟩ := z_1e h
    exact lv_istore_n hx hb hd (Nat.eq_of_beq_eq_true h2) hl (by simpa [Nat.blt_eq] using h3) rfl (fun ls2 hl2 => hKG _ _ _ _ h hlen H locs ls2 hP hS (z_has_sub (z_put1 rfl) hl2))
  case istore n =>
    simp only [z_chk, Bool.and_eq_true] at hc
    obtain ⟨h1, h2, h3⟩ := hc
    obtain rfl := Nat.eq_of_beq_eq_true h1
    obtain rfl := Nat.eq_of_beq_eq_true h2
    intro hlen H locs ls' hP hS hl
    obtain ⟨x, r, rfl, h⟩ := z_1e h
    exact lv_istore hx hb hd hl (by simpa [Nat.blt_eq] using h3) rfl (fun ls2 hl2 => hKG _ _ _ _ h hlen H locs ls2 hP hS (z_has_sub (z_put1 rfl) hl2))
  case lstore_n n =>
    simp only [z_chk, Bool.and_eq_true] at hc
    obtain ⟨h1, h2, h3⟩ := hc
    obtain rfl := Nat.eq_of_beq_eq_true h1
    intro hlen H locs ls' hP hS hl
    obtain ⟨x, r, rfl, h⟩ := z_L1e h
    exact lv_lstore_n hx hb hd (Nat.eq_of_beq_eq_true h2) hl (by simpa [Nat.blt_eq] using h3) rfl (fun ls2 hl2 => hKG _ _ _ _ h hlen H locs ls2 hP hS (z_has_sub (z_put2 rfl) hl2))
  case lstore n =>
    simp only [z_chk, Bool.and_eq_true] at hc
    obtain ⟨h1, h2, h3⟩ := hc
    obtain rfl := Nat.eq_of_beq_eq_true h1
    obtain rfl := Nat.eq_of_beq_eq_true h2
    intro hlen H locs ls' hP hS hl
    obtain ⟨x, r, rfl, h⟩ := z_L1e h
    exact lv_lstore hx hb hd hl (by simpa [Nat.blt_eq] using h3) rfl (fun ls2 hl2 => hKG _ _ _ _ h hlen H locs ls2 hP hS (z_has_sub (z_put2 rfl) hl2))
  case astore_n n =>
    simp only [z_chk, Bool.and_eq_true] at hc
    obtain ⟨h1, h2, h3⟩ := hc
    obtain rfl := Nat.eq_of_beq_eq_true h1
    intro hlen H locs ls' hP hS hl
    dsimp only [z_i] at h
    split at h
    · rename_i x r
      exact lv_astore_n hx hb hd (Nat.eq_of_beq_eq_true h2) hl (by simpa [Nat.blt_eq] using h3) rfl (fun ls2 hl2 => hKG _ _ _ _ h hlen H locs ls2 hP hS (z_has_sub (z_put1 rfl) hl2))
    · exact h.elim
  case astore n =>
    simp only [z_chk, Bool.and_eq_true] at hc
    obtain ⟨h1, h2, h3⟩ := hc
    obtain rfl := Nat.eq_of_beq_eq_true h1
    obtain rfl := Nat.eq_of_beq_eq_true h2
    intro hlen H locs ls' hP hS hl
    dsimp only [z_i] at h
    split at h
    · rename_i x r
      exact lv_astore hx hb hd hl (by simpa [Nat.blt_eq] using h3) rfl (fun ls2 hl2 => hKG _ _ _ _ h hlen H locs ls2 hP hS (z_has_sub (z_put1 rfl) hl2))
    · exact h.elim
  case iinc n d =>
    simp only [z_chk, Bool.and_eq_true] at hc
    obtain ⟨h1, h2, h3⟩ := hc
    obtain rfl := Nat.eq_of_beq_eq_true h1
    obtain rfl := Nat.eq_of_beq_eq_true h2
    intro hlen H locs ls' hP hS hl
    dsimp only [z_i] at h
    split at h
    · rename_i x hv
      obtain ⟨k, hk⟩ := List.getElem?_of_mem (List.mem_map.mpr ⟨_, z_a_mem hv, rfl⟩ : (z_p1 ps, z_v ad (.inl x)) ∈ z_l ad ls)
      exact lv_iinc hx hb hd hl hk (v := Int32.ofInt (x + d)) (by rw [← Int32.ofInt_add]) (by simpa [Nat.blt_eq] using h3) rfl (fun ls2 hl2 => hKG _ _ _ _ h hlen H locs ls2 hP hS (z_has_sub (z_put1 rfl) hl2))
    · exact h.elim
  case iadd =>
    obtain rfl := Nat.eq_of_beq_eq_true hc
    obtain ⟨x, y, r, rfl, h⟩ := z_2e h
    intro hlen H locs ls' hP hS hl
    refine lv_iadd hx hb hd ?_
    rw [← Int32.ofInt_add]
    exact hKG _ _ _ _ h hlen H locs ls' hP hS hl
  case isub =>
    obtain rfl := Nat.eq_of_beq_eq_true hc
    obtain ⟨x, y, r, rfl, h⟩ := z_2e h
    intro hlen H locs ls' hP hS hl
    refine lv_isub hx hb hd ?_
    rw [← Int32.ofInt_sub]
    exact hKG _ _ _ _ h hlen H locs ls' hP hS hl
  case imul =>
    obtain rfl := Nat.eq_of_beq_eq_true hc
    obtain ⟨x, y, r, rfl, h⟩ := z_2e h
    intro hlen H locs ls' hP hS hl
    refine lv_imul hx hb hd ?_
    rw [← Int32.ofInt_mul]
    exact hKG _ _ _ _ h hlen H locs ls' hP hS hl
  case iand =>
    obtain rfl := Nat.eq_of_beq_eq_true hc
    obtain ⟨x, y, r, rfl, h⟩ := z_2e h
    intro hlen H locs ls' hP hS hl
    refine lv_iand hx hb hd ?_
    have := hKG _ _ _ _ h hlen H locs ls' hP hS hl
    simp only [List.map, z_v, z_and, Int32.ofInt_toInt] at this
    exact this
  case ior =>
    obtain rfl := Nat.eq_of_beq_eq_true hc
    obtain ⟨x, y, r, rfl, h⟩ := z_2e h
    intro hlen H locs ls' hP hS hl
    refine lv_ior hx hb hd ?_
    have := hKG _ _ _ _ h hlen H locs ls' hP hS hl
    simp only [List.map, z_v, z_or, Int32.ofInt_toInt] at this
    exact this
  case ixor =>
    obtain rfl := Nat.eq_of_beq_eq_true hc
    obtain ⟨x, y, r, rfl, h⟩ := z_2e h
    intro hlen H locs ls' hP hS hl
    refine lv_ixor hx hb hd ?_
    have := hKG _ _ _ _ h hlen H locs ls' hP hS hl
    simp only [List.map, z_v, z_xor, Int32.ofInt_toInt] at this
    exact this
  case land =>
    obtain rfl := Nat.eq_of_beq_eq_true hc
    obtain ⟨x, y, r, rfl, h⟩ := z_L2e h
    intro hlen H locs ls' hP hS hl
    refine lv_land hx hb hd ?_
    have := hKG _ _ _ _ h hlen H locs ls' hP hS hl
    simp only [List.map, z_v, z_andL, Int64.ofInt_toInt] at this
    exact this
  case lor =>
    obtain rfl := Nat.eq_of_beq_eq_true hc
    obtain ⟨x, y, r, rfl, h⟩ := z_L2e h
    intro hlen H locs ls' hP hS hl
    refine lv_lor hx hb hd ?_
    have := hKG _ _ _ _ h hlen H locs ls' hP hS hl
    simp only [List.map, z_v, z_orL, Int64.ofInt_toInt] at this
    exact this
  case idiv =>
    obtain rfl := Nat.eq_of_beq_eq_true hc
    obtain ⟨x, y, r, rfl, ⟨hX, hY⟩, h⟩ := z_2e h
    intro hlen H locs ls' hP hS hl
    refine lv_idiv hx hb hd (fun q => ?_) ?_
    · have := congrArg Int32.toInt q
      rw [z_R (by omega)] at this
      have e0 : (0 : Int32).toInt = 0 := by decide
      omega
    · rw [z_div hX hY]
      exact hKG _ _ _ _ h hlen H locs ls' hP hS hl
  case irem =>
    obtain rfl := Nat.eq_of_beq_eq_true hc
    obtain ⟨x, y, r, rfl, ⟨hX, hY⟩, h⟩ := z_2e h
    intro hlen H locs ls' hP hS hl
    refine lv_irem hx hb hd (fun q => ?_) ?_
    · have := congrArg Int32.toInt q
      rw [z_R (by omega)] at this
      have e0 : (0 : Int32).toInt = 0 := by decide
      omega
    · rw [z_mod hX hY]
      exact hKG _ _ _ _ h hlen H locs ls' hP hS hl
  case ldiv =>
    obtain rfl := Nat.eq_of_beq_eq_true hc
    obtain ⟨x, y, r, rfl, ⟨hX, hY⟩, h⟩ := z_L2e h
    intro hlen H locs ls' hP hS hl
    refine lv_ldiv hx hb hd (fun q => ?_) ?_
    · have := congrArg Int64.toInt q
      rw [z_Q (by omega)] at this
      have e0 : (0 : Int64).toInt = 0 := by decide
      omega
    · rw [z_divL hX hY]
      exact hKG _ _ _ _ h hlen H locs ls' hP hS hl
  case lrem =>
    obtain rfl := Nat.eq_of_beq_eq_true hc
    obtain ⟨x, y, r, rfl, ⟨hX, hY⟩, h⟩ := z_L2e h
    intro hlen H locs ls' hP hS hl
    refine lv_lrem hx hb hd (fun q => ?_) ?_
    · have := congrArg Int64.toInt q
      rw [z_Q (by omega)] at this
      have e0 : (0 : Int64).toInt = 0 := by decide
      omega
    · rw [z_modL hX hY]
      exact hKG _ _ _ _ h hlen H locs ls' hP hS hl
  case ladd =>
    obtain rfl := Nat.eq_of_beq_eq_true hc
    obtain ⟨x, y, r, rfl, h⟩ := z_L2e h
    intro hlen H locs ls' hP hS hl
    refine lv_ladd hx hb hd ?_
    rw [← Int64.ofInt_add]
    exact hKG _ _ _ _ h hlen H locs ls' hP hS hl
  case lsub =>
    obtain rfl := Nat.eq_of_beq_eq_true hc
    obtain ⟨x, y, r, rfl, h⟩ := z_L2e h
    intro hlen H locs ls' hP hS hl
    refine lv_lsub hx hb hd ?_
    rw [← Int64.ofInt_sub]
    exact hKG _ _ _ _ h hlen H locs ls' hP hS hl
  case lmul =>
    obtain rfl := Nat.eq_of_beq_eq_true hc
    obtain ⟨x, y, r, rfl, h⟩ := z_L2e h
    intro hlen H locs ls' hP hS hl
    refine lv_lmul hx hb hd ?_
    rw [← Int64.ofInt_mul]
    exact hKG _ _ _ _ h hlen H locs ls' hP hS hl
  case ineg =>
    obtain rfl := Nat.eq_of_beq_eq_true hc
    obtain ⟨x, r, rfl, h⟩ := z_1e h
    intro hlen H locs ls' hP hS hl
    refine lv_ineg hx hb hd ?_
    rw [← Int32.ofInt_neg]
    exact hKG _ _ _ _ h hlen H locs ls' hP hS hl
  case ishl =>
    obtain rfl := Nat.eq_of_beq_eq_true hc
    obtain ⟨x, y, r, rfl, hY, h⟩ := z_2e h
    intro hlen H locs ls' hP hS hl
    refine lv_ishl hx hb hd ?_
    rw [z_shl hY]
    exact hKG _ _ _ _ h hlen H locs ls' hP hS hl
  case ishr =>
    obtain rfl := Nat.eq_of_beq_eq_true hc
    obtain ⟨x, y, r, rfl, ⟨hX, hY⟩, h⟩ := z_2e h
    intro hlen H locs ls' hP hS hl
    refine lv_ishr hx hb hd ?_
    rw [z_shr hX hY]
    exact hKG _ _ _ _ h hlen H locs ls' hP hS hl
  case lshl =>
    obtain rfl := Nat.eq_of_beq_eq_true hc
    obtain ⟨x, y, r, rfl, hY, h⟩ := z_LIe h
    intro hlen H locs ls' hP hS hl
    exact lv_lshl hx hb hd (z_shlL hY) (hKG _ _ _ _ h hlen H locs ls' hP hS hl)
  case lshr =>
    obtain rfl := Nat.eq_of_beq_eq_true hc
    obtain ⟨x, y, r, rfl, ⟨hX, hY⟩, h⟩ := z_LIe h
    intro hlen H locs ls' hP hS hl
    exact lv_lshr hx hb hd (z_shrL hX hY) (hKG _ _ _ _ h hlen H locs ls' hP hS hl)
  case iushr =>
    obtain rfl := Nat.eq_of_beq_eq_true hc
    obtain ⟨x, y, r, rfl, h⟩ := z_2e h
    intro hlen H locs ls' hP hS hl
    exact lv_iushr hx hb hd (v := Int32.ofInt (z_ushr x y)) (by rw [z_ushr, Int32.ofInt_toInt]) (hKG _ _ _ _ h hlen H locs ls' hP hS hl)
  case lushr =>
    obtain rfl := Nat.eq_of_beq_eq_true hc
    obtain ⟨x, y, r, rfl, h⟩ := z_LIe h
    intro hlen H locs ls' hP hS hl
    exact lv_lushr hx hb hd (v := Int64.ofInt (z_lushr x y)) (by rw [z_lushr, Int64.ofInt_toInt]) (hKG _ _ _ _ h hlen H locs ls' hP hS hl)
  case i2l =>
    obtain rfl := Nat.eq_of_beq_eq_true hc
    obtain ⟨x, r, rfl, hX, h⟩ := z_1e h
    intro hlen H locs ls' hP hS hl
    exact lv_i2l hx hb hd (z_i2l hX) (hKG _ _ _ _ h hlen H locs ls' hP hS hl)
  case l2i =>
    obtain rfl := Nat.eq_of_beq_eq_true hc
    obtain ⟨x, r, rfl, h⟩ := z_L1e h
    intro hlen H locs ls' hP hS hl
    rcases h with h | h
    · exact lv_l2i hx hb hd (v := Int32.ofInt x) (by rw [Int64.toInt32_ofInt]) (hKG _ _ _ _ h hlen H locs ls' hP hS hl)
    · exact lv_l2i hx hb hd (v := Int32.ofInt (x.bmod 4294967296)) (by rw [Int64.toInt32_ofInt, ← Int32.toInt_inj, Int32.toInt_ofInt, Int32.toInt_ofInt]; exact Int.bmod_bmod.symm) (hKG _ _ _ _ h hlen H locs ls' hP hS hl)
  case i2s =>
    obtain rfl := Nat.eq_of_beq_eq_true hc
    obtain ⟨x, r, rfl, h⟩ := z_1e h
    intro hlen H locs ls' hP hS hl
    exact lv_i2s hx hb hd (v := Int32.ofInt (x.bmod 65536)) (z_i2s x) (hKG _ _ _ _ h hlen H locs ls' hP hS hl)
  case if_icmp op off =>
    simp only [z_chk, Bool.and_eq_true, decide_eq_true_eq] at hc
    obtain ⟨h1, h2⟩ := hc
    obtain rfl := Nat.eq_of_beq_eq_true h1
    obtain ⟨x, y, r, rfl, ⟨hX, hY⟩, h⟩ := z_2e h
    intro hlen H locs ls' hP hS hl
    cases op
    case eq => exact lv_icmp_eq hx hb hd h2 (fun z => (hKG _ _ _ _ (h.1 ((z_req hX hY).mp z)) hlen H locs ls' hP hS hl)) (fun z => (hKG _ _ _ _ (h.2 (fun w => z ((z_req hX hY).mpr w))) hlen H locs ls' hP hS hl))
    case ne => exact lv_icmp_ne hx hb hd h2 (fun z => (hKG _ _ _ _ (h.1 (fun w => z ((z_req hX hY).mpr w))) hlen H locs ls' hP hS hl)) (fun z => (hKG _ _ _ _ (h.2 ((z_req hX hY).mp z)) hlen H locs ls' hP hS hl))
    case lt => exact lv_icmp_lt hx hb hd h2 (fun z => (hKG _ _ _ _ (h.1 ((z_rlt hX hY).mp z)) hlen H locs ls' hP hS hl)) (fun z => (hKG _ _ _ _ (h.2 (Int.not_lt.mp (fun w => z ((z_rlt hX hY).mpr w)))) hlen H locs ls' hP hS hl))
    case ge => exact lv_icmp_ge hx hb hd h2 (fun z => (hKG _ _ _ _ (h.1 ((z_rle hY hX).mp z)) hlen H locs ls' hP hS hl)) (fun z => (hKG _ _ _ _ (h.2 (Int.not_le.mp (fun w => z ((z_rle hY hX).mpr w)))) hlen H locs ls' hP hS hl))
    case gt => exact lv_icmp_gt hx hb hd h2 (fun z => (hKG _ _ _ _ (h.1 ((z_rlt hY hX).mp z)) hlen H locs ls' hP hS hl)) (fun z => (hKG _ _ _ _ (h.2 (Int.not_lt.mp (fun w => z ((z_rlt hY hX).mpr w)))) hlen H locs ls' hP hS hl))
    case le => exact lv_icmp_le hx hb hd h2 (fun z => (hKG _ _ _ _ (h.1 ((z_rle hX hY).mp z)) hlen H locs ls' hP hS hl)) (fun z => (hKG _ _ _ _ (h.2 (Int.not_le.mp (fun w => z ((z_rle hX hY).mpr w)))) hlen H locs ls' hP hS hl))
  case ifCond op off =>
    simp only [z_chk, Bool.and_eq_true, decide_eq_true_eq] at hc
    obtain ⟨h1, h2⟩ := hc
    obtain rfl := Nat.eq_of_beq_eq_true h1
    obtain ⟨x, r, rfl, hX, h⟩ := z_1e h
    intro hlen H locs ls' hP hS hl
    cases op
    case eq => exact lv_if_eq hx hb hd h2 (fun z => (hKG _ _ _ _ (h.1 ((z_req hX (show (-2147483648 : Int) ≤ 0 ∧ (0 : Int) ≤ 2147483647 by omega)).mp z)) hlen H locs ls' hP hS hl)) (fun z => (hKG _ _ _ _ (h.2 (fun w => z ((z_req hX (show (-2147483648 : Int) ≤ 0 ∧ (0 : Int) ≤ 2147483647 by omega)).mpr w))) hlen H locs ls' hP hS hl))
    case ne => exact lv_if_ne hx hb hd h2 (fun z => (hKG _ _ _ _ (h.1 (fun w => z ((z_req hX (show (-2147483648 : Int) ≤ 0 ∧ (0 : Int) ≤ 2147483647 by omega)).mpr w))) hlen H locs ls' hP hS hl)) (fun z => (hKG _ _ _ _ (h.2 ((z_req hX (show (-2147483648 : Int) ≤ 0 ∧ (0 : Int) ≤ 2147483647 by omega)).mp z)) hlen H locs ls' hP hS hl))
    case lt => exact lv_if_lt hx hb hd h2 (fun z => (hKG _ _ _ _ (h.1 ((z_rlt hX (show (-2147483648 : Int) ≤ 0 ∧ (0 : Int) ≤ 2147483647 by omega)).mp z)) hlen H locs ls' hP hS hl)) (fun z => (hKG _ _ _ _ (h.2 (Int.not_lt.mp (fun w => z ((z_rlt hX (show (-2147483648 : Int) ≤ 0 ∧ (0 : Int) ≤ 2147483647 by omega)).mpr w)))) hlen H locs ls' hP hS hl))
    case ge => exact lv_if_ge hx hb hd h2 (fun z => (hKG _ _ _ _ (h.1 ((z_rle (show (-2147483648 : Int) ≤ 0 ∧ (0 : Int) ≤ 2147483647 by omega) hX).mp z)) hlen H locs ls' hP hS hl)) (fun z => (hKG _ _ _ _ (h.2 (Int.not_le.mp (fun w => z ((z_rle (show (-2147483648 : Int) ≤ 0 ∧ (0 : Int) ≤ 2147483647 by omega) hX).mpr w)))) hlen H locs ls' hP hS hl))
    case gt => exact lv_if_gt hx hb hd h2 (fun z => (hKG _ _ _ _ (h.1 ((z_rlt (show (-2147483648 : Int) ≤ 0 ∧ (0 : Int) ≤ 2147483647 by omega) hX).mp z)) hlen H locs ls' hP hS hl)) (fun z => (hKG _ _ _ _ (h.2 (Int.not_lt.mp (fun w => z ((z_rlt (show (-2147483648 : Int) ≤ 0 ∧ (0 : Int) ≤ 2147483647 by omega) hX).mpr w)))) hlen H locs ls' hP hS hl))
    case le => exact lv_if_le hx hb hd h2 (fun z => (hKG _ _ _ _ (h.1 ((z_rle hX (show (-2147483648 : Int) ≤ 0 ∧ (0 : Int) ≤ 2147483647 by omega)).mp z)) hlen H locs ls' hP hS hl)) (fun z => (hKG _ _ _ _ (h.2 (Int.not_le.mp (fun w => z ((z_rle hX (show (-2147483648 : Int) ≤ 0 ∧ (0 : Int) ≤ 2147483647 by omega)).mpr w)))) hlen H locs ls' hP hS hl))
  case goto off =>
    simp only [z_chk, Bool.and_eq_true, decide_eq_true_eq] at hc
    obtain ⟨h1, h2⟩ := hc
    obtain rfl := Nat.eq_of_beq_eq_true h1
    intro hlen H locs ls' hP hS hl
    exact lv_goto hx hb hd h2 (hKG _ _ _ _ h hlen H locs ls' hP hS hl)
  case lcmp =>
    obtain rfl := Nat.eq_of_beq_eq_true hc
    obtain ⟨x, y, r, rfl, ⟨hX, hY⟩, h⟩ := z_L2e h
    intro hlen H locs ls' hP hS hl
    split at h
    · rename_i op off nx2 ps2 hq2
      obtain ⟨len2, hd2, hnx2, hc2⟩ := z_ent_spec htb hq2
      dsimp only at hd2 hnx2 hc2
      simp only [z_chk, Bool.and_eq_true, decide_eq_true_eq] at hc2
      obtain ⟨h1, h2⟩ := hc2
      obtain rfl := Nat.eq_of_beq_eq_true h1
      subst hnx2
      refine W.lcmp hx hb hd ?_
      rw [z_lcmp hX hY]
      obtain ⟨t, ht⟩ : ∃ t : Int, t = (if x < y then -1 else if x = y then 0 else 1) := ⟨_, rfl⟩
      rw [← ht]
      have hT : -2147483648 ≤ t ∧ t ≤ 2147483647 := by
        rw [ht]; split
        · omega
        · split <;> omega
      have hlt : t < 0 ↔ x < y := by
        rw [ht]; split
        · omega
        · split <;> omega
      have heq : t = 0 ↔ x = y := by
        rw [ht]; split
        · omega
        · split <;> omega
      have hgt : 0 < t ↔ y < x := by
        rw [ht]; split
        · omega
        · split <;> omega
      have Z : (-2147483648 : Int) ≤ 0 ∧ (0 : Int) ≤ 2147483647 := by omega
      cases op
      case eq => exact lv_if_eq hx hb hd2 h2 (fun z => hKG _ _ _ _ (h.1 (heq.mp ((z_req hT Z).mp z))) hlen H locs ls' hP hS hl) (fun z => hKG _ _ _ _ (h.2 (fun w => z ((z_req hT Z).mpr (heq.mpr w)))) hlen H locs ls' hP hS hl)
      case ne => exact lv_if_ne hx hb hd2 h2 (fun z => hKG _ _ _ _ (h.1 (fun w => z ((z_req hT Z).mpr (heq.mpr w)))) hlen H locs ls' hP hS hl) (fun z => hKG _ _ _ _ (h.2 (heq.mp ((z_req hT Z).mp z))) hlen H locs ls' hP hS hl)
      case lt => exact lv_if_lt hx hb hd2 h2 (fun z => hKG _ _ _ _ (h.1 (hlt.mp ((z_rlt hT Z).mp z))) hlen H locs ls' hP hS hl) (fun z => hKG _ _ _ _ (h.2 (Int.not_lt.mp (fun w => z ((z_rlt hT Z).mpr (hlt.mpr w))))) hlen H locs ls' hP hS hl)
      case ge => exact lv_if_ge hx hb hd2 h2 (fun z => hKG _ _ _ _ (h.1 (Int.not_lt.mp (fun w => absurd ((z_rle Z hT).mp z) (by have := hlt.mpr w; omega)))) hlen H locs ls' hP hS hl) (fun z => hKG _ _ _ _ (h.2 (Int.not_le.mp (fun w => z ((z_rle Z hT).mpr (Int.not_lt.mp (fun v => absurd (hlt.mp v) (by omega))))))) hlen H locs ls' hP hS hl)
      case gt => exact lv_if_gt hx hb hd2 h2 (fun z => hKG _ _ _ _ (h.1 (hgt.mp ((z_rlt Z hT).mp z))) hlen H locs ls' hP hS hl) (fun z => hKG _ _ _ _ (h.2 (Int.not_lt.mp (fun w => z ((z_rlt Z hT).mpr (hgt.mpr w))))) hlen H locs ls' hP hS hl)
      case le => exact lv_if_le hx hb hd2 h2 (fun z => hKG _ _ _ _ (h.1 (Int.not_lt.mp (fun w => absurd ((z_rle hT Z).mp z) (by have := hgt.mpr w; omega)))) hlen H locs ls' hP hS hl) (fun z => hKG _ _ _ _ (h.2 (Int.not_le.mp (fun w => z ((z_rle hT Z).mpr (Int.not_lt.mp (fun v => absurd (hgt.mp v) (by omega))))))) hlen H locs ls' hP hS hl)
    · exact h.elim
  case dup =>
    obtain rfl := Nat.eq_of_beq_eq_true hc
    intro hlen H locs ls' hP hS hl
    dsimp only [z_i] at h
    split at h
    · exact lv_dup hx hb hd rfl (hKG _ _ _ _ h hlen H locs ls' hP hS hl)
    · exact lv_dup hx hb hd rfl (hKG _ _ _ _ h hlen H locs ls' hP hS hl)
    · exact h.elim
  case pop =>
    obtain rfl := Nat.eq_of_beq_eq_true hc
    intro hlen H locs ls' hP hS hl
    dsimp only [z_i] at h
    split at h
    · rename_i x r
      exact lv_pop hx hb (va := z_v ad (.inl x)) hd rfl (hKG _ _ _ _ h hlen H locs ls' hP hS hl)
    · rename_i x r
      exact lv_pop hx hb (va := z_v ad (.inr (.inr x))) hd rfl (hKG _ _ _ _ h hlen H locs ls' hP hS hl)
    · exact h.elim
  case getfield i =>
    obtain rfl := Nat.eq_of_beq_eq_true hc
    intro hlen H locs ls' hP hS hl
    dsimp only [z_i] at h
    split at h
    · rename_i q r
      split at h
      · rename_i o ho
        split at h
        · rename_i t ht
          obtain ⟨hci, h⟩ := z_bif h
          have hci := Nat.eq_of_beq_eq_true hci
          split at h
          · rename_i v hv
            obtain ⟨C, T, N, f1, f2, f3, f4, f5, -⟩ := hft _ (z_a_mem ht)
            dsimp only at f1 f2 f4 f5
            have hP0 := z_w_at (ad := ad) (cA := cA) ho
            have hv' : (o.2.map (z_v ad))[t.2.1]? = some (z_v ad v) := by rw [List.getElem?_map, ← z_g_eq, hv]; rfl
            rw [← hci] at f1
            rcases f5 with f5 | ⟨host, f5⟩
            · exact va_get hx hb hts f3 hown hK hP q hP0 f1 t.2.1 f2 (hts _ f5) (fun x hx => by rw [f4] at hx; exact hx) hv' hd (hKG _ _ _ _ h hlen H locs ls' hP hS hl)
            · exact va_getN hx hb hts f3 hown hK hP q hP0 f1 t.2.1 f2 (va_Nw.use rfl (hN _ f5)) (fun x hx => by rw [f4] at hx; exact hx) hv' hd (hKG _ _ _ _ h hlen H locs ls' hP hS hl)
          · exact h.elim
        · exact h.elim
      · exact h.elim
    · exact h.elim
  case putfield i =>
    obtain rfl := Nat.eq_of_beq_eq_true hc
    intro hlen H locs ls' hP hS hl
    dsimp only [z_i] at h
    split at h
    · rename_i x q r
      split at h
      · rename_i o ho
        split at h
        · rename_i t ht
          obtain ⟨hci, h⟩ := z_bif h
          obtain ⟨hlt, h⟩ := z_bif h
          have hci := Nat.eq_of_beq_eq_true hci
          have hlt : t.2.1 < o.2.length := by simpa [Nat.blt_eq] using hlt
          obtain ⟨C, T, N, f1, f2, f3, f4, -, f6⟩ := hft _ (z_a_mem ht)
          dsimp only at f1 f2 f4 f6
          have hP0 := z_w_at (ad := ad) (cA := cA) ho
          rw [← hci] at f1
          have hset : ∀ H1, va_P D classes ((z_w ad cA ws).set q (ad q, .inr (o.1, (o.2.map (z_v ad)).set t.2.1 (.int (Int32.ofInt x))))) H1 → va_P D classes (z_w ad cA (z_s ws q (.inl (o.1, z_s o.2 t.2.1 (.inl x))))) H1 := fun H1 h1 => by
            rw [z_w_set]
            have e : z_e ad cA (.inl (o.1, z_s o.2 t.2.1 (.inl x))) = .inr (o.1, (o.2.map (z_v ad)).set t.2.1 (.int (Int32.ofInt x))) := by
              show Sum.inr (o.1, (z_s o.2 t.2.1 (.inl x)).map (z_v ad)) = _
              rw [z_s_eq, List.map_set]; rfl
            rw [e]; exact h1
          split at h
          · rename_i h9
            obtain ⟨g1, g2, ⟨ty0, g3⟩, g4, g5⟩ := f6 (by omega)
            rcases g5 with ⟨-, g5⟩ | ⟨g6, -⟩
            · refine va_put hx hb hts f3 ty0 g3 g4 hown hK hP (hD hlen) hS q hP0 f1 t.2.1 f2 (hts _ g1) (fun x hx => by rw [f4] at hx; exact hx) g2 g5 (v := .int (Int32.ofInt x)) rfl rfl (by simpa using hlt) hd (fun H1 locs1 hP1 _ hS1 => ?_)
              exact hKG _ _ _ _ h (by rw [z_s_len]; exact hlen) H1 locs1 ls' (hset H1 hP1) hS1 hl
            · omega
          · rename_i h9
            obtain ⟨g1, g2, ⟨ty0, g3⟩, g4, g5⟩ := f6 (by omega)
            rcases g5 with ⟨g6, -⟩ | ⟨-, g5⟩
            · omega
            · refine va_put hx hb hts f3 ty0 g3 g4 hown hK hP (hD hlen) hS q hP0 f1 t.2.1 f2 (hts _ g1) (fun x hx => by rw [f4] at hx; exact hx) g2 g5 (v := .int (Int32.ofInt x)) (by rcases h.1 with rfl | rfl <;> decide) (by rcases h.1 with rfl | rfl <;> decide) (by simpa using hlt) hd (fun H1 locs1 hP1 _ hS1 => ?_)
              exact hKG _ _ _ _ h.2 (by rw [z_s_len]; exact hlen) H1 locs1 ls' (hset H1 hP1) hS1 hl
          · exact h.elim
        · exact h.elim
      · exact h.elim
    · exact h.elim
  case iaload =>
    obtain rfl := Nat.eq_of_beq_eq_true hc
    intro hlen H locs ls' hP hS hl
    dsimp only [z_i] at h
    split at h
    · rename_i i q r
      split at h
      · rename_i t n f ho
        have hP0 := z_w_at (ad := ad) (cA := cA) ho
        refine va_iald hx hb hK hP q 0 hP0 rfl (z_vin h.1) hd ?_
        rw [z_cl h.1]
        exact hKG _ _ _ _ h.2 hlen H locs ls' hP hS hl
      · exact h.elim
      · split at h
        · rename_i b _
          obtain ⟨hq9, h⟩ := z_bif h
          have hq9 := Nat.eq_of_beq_eq_true hq9
          subst hq9
          refine va_sld hx hb hsc.1 hsc.2.1 hsc.2.2 hS (z_vin h.1) hd ?_
          rw [z_cl h.1]
          exact hKG _ _ _ _ h.2 hlen H locs ls' hP hS hl
        · exact h.elim
    · exact h.elim
  case laload =>
    obtain rfl := Nat.eq_of_beq_eq_true hc
    intro hlen H locs ls' hP hS hl
    dsimp only [z_i] at h
    split at h
    · rename_i i q r
      split at h
      · rename_i t n f ho
        have hP0 := z_w_at (ad := ad) (cA := cA) ho
        refine va_lald hx hb hK hP q 1 hP0 rfl (z_vin h.1) hd ?_
        rw [z_cl h.1]
        exact hKG _ _ _ _ h.2 hlen H locs ls' hP hS hl
      · exact h.elim
    · exact h.elim
  case aaload =>
    obtain rfl := Nat.eq_of_beq_eq_true hc
    intro hlen H locs ls' hP hS hl
    dsimp only [z_i] at h
    split at h
    · rename_i i q r
      split at h
      · rename_i t n f ho
        obtain ⟨ht, h⟩ := z_bif h
        have ht := Nat.le_of_ble_eq_true ht
        have hP0 := z_w_at (ad := ad) (cA := cA) ho
        rcases (show t = 0 ∨ t = 1 by omega) with rfl | rfl
        · refine va_aldq hx hb hK hP q 2 hP0 rfl (z_vin h.1) hd ?_
          rw [z_cl h.1]
          exact hKG _ _ _ _ h.2 hlen H locs ls' hP hS hl
        · refine va_aldq hx hb hK hP q 3 hP0 rfl (z_vin h.1) hd ?_
          rw [z_cl h.1]
          exact hKG _ _ _ _ h.2 hlen H locs ls' hP hS hl
      · exact h.elim
    · exact h.elim
  case iastore =>
    obtain rfl := Nat.eq_of_beq_eq_true hc
    intro hlen H locs ls' hP hS hl
    dsimp only [z_i] at h
    split at h
    · rename_i v i q r
      split at h
      · rename_i t n f ho
        have hP0 := z_w_at (ad := ad) (cA := cA) ho
        refine va_iast hx hb hK hP (hD hlen) hS q 0 hP0 rfl (z_vin h.1) hd (fun H1 locs1 hP1 _ hS1 => ?_)
        rw [z_upd h.1] at hP1
        exact hKG _ _ _ _ h.2 (by rw [z_s_len]; exact hlen) H1 locs1 ls' (by rw [z_w_set]; exact hP1) hS1 hl
      · exact h.elim
    · exact h.elim
  case lastore =>
    obtain rfl := Nat.eq_of_beq_eq_true hc
    intro hlen H locs ls' hP hS hl
    dsimp only [z_i] at h
    split at h
    · rename_i v i q r
      split at h
      · rename_i t n f ho
        have hP0 := z_w_at (ad := ad) (cA := cA) ho
        refine va_last hx hb hK hP (hD hlen) hS q 1 hP0 rfl (z_vin h.1) hd (fun H1 locs1 hP1 _ hS1 => ?_)
        rw [z_updL h.1] at hP1
        exact hKG _ _ _ _ h.2 (by rw [z_s_len]; exact hlen) H1 locs1 ls' (by rw [z_w_set]; exact hP1) hS1 hl
      · exact h.elim
    · exact h.elim
  case arraylength =>
    obtain rfl := Nat.eq_of_beq_eq_true hc
    intro hlen H locs ls' hP hS hl
    dsimp only [z_i] at h
    split at h
    · rename_i q r
      split at h
      · exact h.elim
      · split at h
        · rename_i b _
          obtain ⟨hq9, h⟩ := z_bif h
          have hq9 := Nat.eq_of_beq_eq_true hq9
          subst hq9
          refine va_slen hx hb hsc.1 hsc.2.1 hsc.2.2 hS hd ?_
          rw [← Int32.ofInt_eq_ofNat]
          exact hKG _ _ _ _ h hlen H locs ls' hP hS hl
        · exact h.elim
    · exact h.elim
  case ireturn =>
    obtain rfl := Nat.eq_of_beq_eq_true hc
    dsimp only [z_i] at h
    split at h
    · exact hR.1 _ _ _ _ hd h
    · exact h.elim
  case lreturn =>
    obtain rfl := Nat.eq_of_beq_eq_true hc
    dsimp only [z_i] at h
    split at h
    · exact hR.2.1 _ _ _ _ hd h
    · exact h.elim
  case return_ =>
    obtain rfl := Nat.eq_of_beq_eq_true hc
    dsimp only [z_i] at h
    split at h
    · exact hR.2.2 _ _ _ hd h
    · exact h.elim
  case tableswitch d lo hi offs =>
    simp only [z_chk, Bool.and_eq_true, decide_eq_true_eq] at hc
    obtain ⟨h1, h2⟩ := hc
    obtain ⟨x, r, rfl, hX, h⟩ := z_1e h
    intro hlen H locs ls' hP hS hl
    cases ps with
    | nil => exact h.elim
    | cons t0 ts =>
      simp only [List.map_cons, List.cons.injEq] at h1
      obtain ⟨e0, e1⟩ := h1
      have eL : ts.length = offs.size := by
        have := congrArg List.length e1
        simpa using this
      by_cases ho : x < lo ∨ hi < x
      · exact lv_tableOut hx hb hd (by rw [z_R hX]; exact ho) e0.symm (hKG _ _ _ _ (h.1 ho) hlen H locs ls' hP hS hl)
      · have hk : (x - lo).toNat < ts.length := by omega
        obtain ⟨t, k1, k2⟩ := z_swlE h.2 (x - lo).toNat hk (by omega)
        have k3 : (offs.toList)[(x - lo).toNat]? = some ((t : Int) - pc) := by
          have e2 := congrArg (fun z => z[(x - lo).toNat]?) e1
          simp only [List.getElem?_map, k1, Option.map_some] at e2
          cases hz : offs.toList[(x - lo).toNat]? with
          | none => rw [hz] at e2; cases e2
          | some o =>
            rw [hz] at e2
            have := Option.some.inj e2
            dsimp only at this
            congr 1; omega
        exact lv_tableIn hx hb hd (by rw [z_R hX]; omega) (by rw [z_R hX]; omega) (off := (t : Int) - pc) (by rw [z_R hX, ← Array.getElem?_toList]; exact k3) (tgt := t) (by omega) (hKG _ _ _ _ k2 hlen H locs ls' hP hS hl)
  case lookupswitch d prs =>
    simp only [z_chk, Bool.and_eq_true, decide_eq_true_eq] at hc
    obtain ⟨h1, h2⟩ := hc
    obtain ⟨x, r, rfl, hX, h⟩ := z_1e h
    intro hlen H locs ls' hP hS hl
    have hpr : (prs.toList.zip (prs.toList.drop 1)).all (fun (a, next) => a.1 < next.1) = true := h2
    cases ps with
    | nil => exact h.elim
    | cons t0 ts =>
      simp only [List.map_cons, List.cons.injEq] at h1
      obtain ⟨e0, e1⟩ := h1
      have key : ∀ (rs : List (Int × Int)) (us : List Nat), us.map (fun t : Nat => (t : Int)) = (rs.map (fun q => q.2)).map (fun o => (pc : Int) + o) → z_lk (fun t => K t ls r ws) x t0 rs us → ∃ (off : Int) (t : Nat), Op.lookupswitch.offset rs d x = off ∧ (pc : Int) + off = (t : Int) ∧ K t ls r ws := by
        intro rs
        induction rs with
        | nil => intro us _ hk; exact ⟨d, t0, rfl, e0.symm, hk⟩
        | cons q rs ih =>
          intro us hu hk
          cases us with
          | nil => cases hu
          | cons u us =>
            simp only [List.map_cons, List.cons.injEq] at hu
            by_cases hxq : x = q.1
            · exact ⟨q.2, u, by rw [Op.lookupswitch.offset_cons, if_pos hxq.symm], hu.1.symm, hk.1 hxq⟩
            · obtain ⟨off, t, a1, a2, a3⟩ := ih us hu.2 (hk.2 hxq)
              exact ⟨off, t, by rw [Op.lookupswitch.offset_cons, if_neg (fun w => hxq w.symm)]; exact a1, a2, a3⟩
      obtain ⟨off, t, a1, a2, a3⟩ := key _ _ e1 h
      exact lv_lookup hx hb hd hpr (off := off) (by rw [z_R hX]; exact a1) a2 (hKG _ _ _ _ a3 hlen H locs ls' hP hS hl)
  case invokevirtual i =>
    exact h
  case invokestatic i =>
    exact h
  case invokespecial i =>
    exact h
  all_goals exact h.elim
theorem z_go {p : Program} {l : Launch} {e : Env} {R : Room} {s : State} {m : MethodId} {args : Array Value} {below : List Frame} {meth : Method} {c : Code} {cells slots : Nat} {Q : State → Prop} {cc : ByteArray} {own : String} {D : va_G} {cA : Nat → ClassId} {ad : Nat → Nat} {A : Nat → Prop} {n0 nL : Nat} {sc : Option (Nat × (Int → Int))}
    (X : z_X p s m args c cc own D cA ad A n0 nL sc) {tb : List (Nat × zI)} {ft : List (Nat × (Nat × (Nat × Nat)))} {ct : List (Nat × Int) × List (Nat × Int)} {Rr : Option zV → zW → Prop}
    (htb : tb.all (z_ent cc nL) = true) (hft : z_fok own ft) (hct : z_cok own ct) (hR : z_RR cc Rr (z_G p l e R s m args below meth c cells slots Q D cA ad A n0 nL)) (stops : List Nat) :
    ∀ (n : Nat) (pc : Nat) (ls : zL) (st : List zV) (ws : zW), z_run tb ft ct sc Rr stops (z_G p l e R s m args below meth c cells slots Q D cA ad A n0 nL) n pc ls st ws → z_G p l e R s m args below meth c cells slots Q D cA ad A n0 nL pc ls st ws
  | 0, pc, ls, st, ws, h => h
  | n + 1, pc, ls, st, ws, h => by
    unfold z_run at h
    split at h
    · exact h.elim
    · rename_i q hq
      refine z_snd X htb hft hct hR (K := fun pc' ls' st' ws' => bif z_in pc' stops then z_G p l e R s m args below meth c cells slots Q D cA ad A n0 nL pc' ls' st' ws' else z_run tb ft ct sc Rr stops (z_G p l e R s m args below meth c cells slots Q D cA ad A n0 nL) n pc' ls' st' ws') (fun pc' ls' st' ws' hk => ?_) hq h
      cases hz : z_in pc' stops with
      | true => rw [hz] at hk; exact hk
      | false => rw [hz] at hk; exact z_go X htb hft hct hR stops n pc' ls' st' ws' hk
end
section
/-! CONTRACTS over the abstract machine -/
abbrev zM : Type := MethodName × (ByteArray × (Nat × (Option FieldType × (Nat × Nat))))
def z_rm (y : zM) : Room := { frames := y.2.2.2.2.1, cells := 0, slots := 0, locals := y.2.2.2.2.2 }
def z_ws (y : zM) : List Cond := Cond.code y.1 y.2.1 y.2.2.1 y.2.2.2.1 :: z_tbl
def z_Pre (D : va_G) (cA : Nat → ClassId) (ad : Nat → Nat) (w : zW) (sz : Nat) : State → Prop := fun U => U.heap.size = sz ∧ va_P D classes (z_w ad cA w) U.heap ∧ va_K D classes (z_t cA) U ∧ z_N U ∧ va_D (fun _ => True) (z_w ad cA w)
def z_Qc (D : va_G) (cA : Nat → ClassId) (ad : Nat → Nat) (w : zW) (sz : Nat) (P : Option zV → zW → Prop) : Array Value → State → Outcome → State → Prop := fun _ st oc t => (∃ (v : Option zV) (w' : zW), oc = .returned (v.map (z_v ad)) ∧ P v w' ∧ w'.length = w.length ∧ va_P D classes (z_w ad cA w') t.heap) ∧ va_F (va_A (z_w ad cA w) sz) st t
/-- from the arguments A over the cells w the method ends with an answer and cells that P has; nothing else changes, nothing is made -/
def zMet (y : zM) (A : List zV) (w : zW) (P : Option zV → zW → Prop) : Prop := ∀ (l : Launch) (D : va_G) (cA : Nat → ClassId) (ad : Nat → Nat) (sz : Nat),
  Met l y.1 (z_ws y) (z_rm y) (va_Pc (A.map (z_v ad)) (z_Pre D cA ad w sz)) (z_Qc D cA ad w sz P) 0 0 (va_A (z_w ad cA w) sz)
-- places of a callee's cells among the caller's
def z_pl : List Nat → Nat → Nat
  | [], k => k
  | [a], k => a + k
  | a :: _ :: _, 0 => a
  | _ :: b :: l, k + 1 => z_pl (b :: l) k
def z_rv (π : List Nat) : zV → zV
  | .inl x => .inl x
  | .inr (.inl x) => .inr (.inl x)
  | .inr (.inr k) => .inr (.inr (z_pl π k))
def z_ren (π : List Nat) : zC → zC
  | .inl o => .inl (o.1, o.2.map (z_rv π))
  | .inr (t, (n, .inl f)) => .inr (t, (n, .inl f))
  | .inr (t, (n, .inr (.inl f))) => .inr (t, (n, .inr (.inl f)))
  | .inr (t, (n, .inr (.inr f))) => .inr (t, (n, .inr (.inr (fun j => z_pl π (f j)))))
def z_sct (π : List Nat) : List Nat → zW → zW → zW
  | p :: ps, c :: cs, ws => z_sct π ps cs (z_s ws p (z_ren π c))
  | _, _, ws => ws
def z_catsum : List zV → Nat
  | [] => 0
  | v :: r => (bif z_isL v then 2 else 1) + z_catsum r
theorem z_catsum_eq (ad : Nat → Nat) : ∀ r : List zV, ((r.map (z_v ad)).map fun v => v.category).sum = z_catsum r
  | [] => rfl
  | v :: r => by
    simp only [List.map_cons, List.sum_cons, z_catsum]
    rw [← z_catsum_eq ad r]
    rcases v with x | x | x <;> rfl
theorem z_pl_get : ∀ {π : List Nat} {k p : Nat}, π[k]? = some p → z_pl π k = p
  | [], k, p, h => by simp at h
  | [a], 0, p, h => by simpa [z_pl] using h
  | [a], k + 1, p, h => by simp at h
  | a :: b :: l, 0, p, h => by simpa [z_pl] using h
  | a :: b :: l, k + 1, p, h => by
    show z_pl (b :: l) k = p
    exact z_pl_get (π := b :: l) (k := k) (by simpa using h)
theorem z_pl_range : ∀ (n a k : Nat), z_pl (List.range' a (n + 1)) k = a + k
  | 0, a, k => rfl
  | n + 1, a, 0 => rfl
  | n + 1, a, k + 1 => by
    show z_pl (List.range' (a + 1) (n + 1)) k = _
    rw [z_pl_range n (a + 1) k]; omega
theorem z_v_ren (ad : Nat → Nat) (π : List Nat) (v : zV) : z_v ad (z_rv π v) = z_v (fun k => ad (z_pl π k)) v := by
  rcases v with x | x | x <;> rfl
theorem z_e_ren (ad : Nat → Nat) (cA : Nat → ClassId) (π : List Nat) (c : zC) : z_e ad cA (z_ren π c) = z_e (fun k => ad (z_pl π k)) cA c := by
  rcases c with ⟨ci, fs⟩ | ⟨t, n, f | f | f⟩
  · show Sum.inr (ci, (fs.map (z_rv π)).map (z_v ad)) = Sum.inr (ci, fs.map (z_v fun k => ad (z_pl π k)))
    rw [List.map_map]
    congr 2
    exact List.map_congr_left fun v _ => z_v_ren ad π v
  · rfl
  · rfl
  · rfl
theorem z_sct_len (π : List Nat) : ∀ (ps : List Nat) (cs ws : zW), (z_sct π ps cs ws).length = ws.length
  | [], cs, ws => by cases cs <;> rfl
  | p :: ps, [], ws => rfl
  | p :: ps, c :: cs, ws => by rw [z_sct, z_sct_len π ps cs, z_s_len]
theorem z_sct_out (π : List Nat) : ∀ (ps : List Nat) (cs ws : zW) (k : Nat), k ∉ ps → (z_sct π ps cs ws)[k]? = ws[k]?
  | [], cs, ws, k, _ => by cases cs <;> rfl
  | p :: ps, [], ws, k, _ => rfl
  | p :: ps, c :: cs, ws, k, h => by
    rw [z_sct, z_sct_out π ps cs _ k (fun q => h (List.mem_cons_of_mem _ q)), z_s_eq, List.getElem?_set_ne]
    exact fun e => h (e ▸ List.mem_cons_self)
theorem z_sct_in (π : List Nat) : ∀ (ps : List Nat) (cs ws : zW) (j p : Nat) (c : zC), ps.Nodup → (∀ q ∈ ps, q < ws.length) → ps[j]? = some p → cs[j]? = some c → (z_sct π ps cs ws)[p]? = some (z_ren π c)
  | [], cs, ws, j, p, c, _, _, h, _ => by simp at h
  | q :: ps, [], ws, j, p, c, _, _, _, h => by simp at h
  | q :: ps, d :: cs, ws, 0, p, c, hn, hl, h1, h2 => by
    have e1 : q = p := by simpa using h1
    have e2 : d = c := by simpa using h2
    subst e1; subst e2
    rw [z_sct, z_sct_out π ps cs _ q (List.nodup_cons.mp hn).1, z_s_eq, List.getElem?_set_self]
    exact hl q List.mem_cons_self
  | q :: ps, d :: cs, ws, j + 1, p, c, hn, hl, h1, h2 => by
    rw [z_sct]
    exact z_sct_in π ps cs _ j p c (List.nodup_cons.mp hn).2 (fun r hr => by rw [z_s_len]; exact hl r (List.mem_cons_of_mem _ hr)) (by simpa using h1) (by simpa using h2)
def z_yB (y : zM) (n : Nat) : Prop := (y.1.cls ≠ "java/lang/invoke/MethodHandle" ∧ y.1.cls ≠ "java/lang/invoke/VarHandle" ∧ (parseMethodDescriptor y.1.desc).map (fun d => d.parameters.length) = some n) ∧ Cond.initialized y.1.cls ∈ z_tbl ∧ Cond.code y.1 y.2.1 y.2.2.1 y.2.2.2.1 ∈ z_tbl
def z_yV (y : zM) (n ci : Nat) : Prop := z_yB y n ∧ Cond.instanceMethod y.1 ∈ z_tbl ∧ Cond.selects y.1.cls y.1 y.1 ∈ z_tbl ∧ ∃ (T : u_T) (N : Nat), classes[ci]? = some (y.1.cls, T, N)
def z_yS (y : zM) (n : Nat) : Prop := z_yB y n ∧ Cond.static y.1 ∈ z_tbl
def z_lk1 (own : String) (i : Nat) (y : MethodName) : Prop := Cond.methodLink own i y ∈ z_tbl ∨ ∃ host, Cond.methodLinkNest own i y host ∈ z_nest
theorem z_blind (av : List Value) (D : va_G) (cA : Nat → ClassId) (ad : Nat → Nat) (w : zW) (sz : Nat) : FrameBlind (va_Pc av (z_Pre D cA ad w sz)) := fun a U g mk q => by
  obtain ⟨q0, q1, qP, qK, qN, qD⟩ := q
  exact ⟨q0, q1, qP, va_K.moved (u := U) (U := U.calling g mk a) (Vm.Alike.refl U.vm) qK, z_N_same (u := U) (U := U.calling g mk a) rfl qN, qD⟩
theorem z_goodIn {y : zM} (hc : Cond.code y.1 y.2.1 y.2.2.1 y.2.2.2.1 ∈ z_tbl) : GoodIn z_tbl (z_ws y) := fun w hw => by
  rcases List.mem_cons.mp hw with rfl | hw
  · exact z_good _ hc
  · exact z_good _ hw
/-- behind any call: out of the callee's run -/
theorem z_back {p : Program} {l : Launch} {e : Env} {R : Room} {s : State} {m : MethodId} {args : Array Value} {below : List Frame} {meth : Method} {c : Code} {cells slots : Nat} {Q : State → Prop} {cc : ByteArray} {own : String} {D : va_G} {cA : Nat → ClassId} {ad : Nat → Nat} {A : Nat → Prop} {n0 nL : Nat} {sc : Option (Nat × (Int → Int))}
    (X : z_X p s m args c cc own D cA ad A n0 nL sc) {w' : zW} {P' : Option zV → zW → Prop} {π : List Nat} (hnd : π.Nodup) {ws : zW} (hw : π.map (z_g ws) = w'.map (fun c => some (z_ren π c)))
    {H : Heap} {locs : List Loc} {pc : Nat} {ls : zL} {ls' : Array Slot} {st0 : List Value} {rest : List zV} {av : Array Value} (hlen : ws.length = n0) (hP : va_P D classes (z_w ad cA ws) H) (hS : va_S A s.heap H locs) (hl : lv_has ls' nL (z_l ad ls))
    (run : va_Run p l e R s m args below meth c H locs cells slots 0 0 (F0 m pc ls' st0) (rest.map (z_v ad)) (z_Qc D cA (fun k => ad (z_pl π k)) w' H.size P' av) (va_A (z_w (fun k => ad (z_pl π k)) cA w') H.size))
    (kk : ∀ v w2, P' v w2 → w2.length = w'.length → z_G p l e R s m args below meth c cells slots Q D cA ad A n0 nL (pc + 3) ls ((v.map (z_rv π)).toList ++ rest) (z_sct π π w2 ws)) : W p l e R s m args below meth c H locs cells slots Q (F0 m pc ls' st0) := by
  obtain ⟨hx, hb, hml, hown, hts, hK, hN, hinj, hAd, hA0, hsc⟩ := X
  have hwl : π.length = w'.length := by
    have := congrArg List.length hw
    simpa using this
  have at0 : ∀ (k : Nat) (c : zC), w'[k]? = some c → ∃ p, π[k]? = some p ∧ ws[p]? = some (z_ren π c) := by
    intro k c hk
    have h1 : (π.map (z_g ws))[k]? = some (some (z_ren π c)) := by rw [hw, List.getElem?_map, hk]; rfl
    rw [List.getElem?_map] at h1
    cases hp : π[k]? with
    | none => rw [hp] at h1; cases h1
    | some p => rw [hp] at h1; exact ⟨p, rfl, by rw [← z_g_eq]; exact Option.some.inj h1⟩
  have hpl : ∀ q ∈ π, q < ws.length := by
    intro q hq
    obtain ⟨k, hk⟩ := List.getElem?_of_mem hq
    have hk2 : k < w'.length := hwl ▸ (List.getElem?_eq_some_iff.mp hk).1
    obtain ⟨p, h1, h2⟩ := at0 k w'[k] (List.getElem?_eq_getElem hk2)
    rw [hk] at h1
    cases h1
    exact (List.getElem?_eq_some_iff.mp h2).1
  have hlt : ∀ k : Nat, k < n0 → ad k < H.size := by
    intro k hk
    have h1 : ws[k]? = some (ws[k]'(hlen ▸ hk)) := List.getElem?_eq_getElem (hlen ▸ hk)
    have h2 := hP k _ (z_w_at (ad := ad) (cA := cA) (by rw [z_g_eq]; exact h1))
    exact h2.lt
  have inC : ∀ q : Nat, va_A (z_w (fun k => ad (z_pl π k)) cA w') H.size q → (∃ (k p : Nat), π[k]? = some p ∧ q = ad p) ∨ H.size ≤ q := by
    intro q h
    rcases h with ⟨k, e, h⟩ | h
    · rw [z_w_get] at h
      cases hc : w'[k]? with
      | none => rw [hc] at h; cases h
      | some c =>
        rw [hc] at h
        obtain ⟨p, h1, -⟩ := at0 k c hc
        have := Option.some.inj h
        have h2 := congrArg Prod.fst this
        dsimp only at h2
        exact Or.inl ⟨k, p, h1, by rw [← h2, z_pl_get h1]⟩
    · exact Or.inr h
  have hF : ∀ q : Nat, va_A (z_w (fun k => ad (z_pl π k)) cA w') H.size q → A q := by
    intro q h
    rcases inC q h with ⟨k, p, h1, rfl⟩ | h
    · exact hAd p (hlen ▸ hpl p (List.mem_of_getElem? h1))
    · exact hA0 q (Nat.le_trans hS.1 h)
  intro T hT X
  obtain ⟨v, st₀, t, T', L, h0, X', hL, e1, e2, ⟨⟨v', w2, hv, hp, hl2, hP2⟩, hz, hk⟩, st⟩ := run T hT X
  rw [h0] at hz hk
  have hv' : v = v'.map (z_v fun k => ad (z_pl π k)) := by cases hv; rfl
  subst hv'
  have hP3 : va_P D classes (z_w ad cA (z_sct π π w2 ws)) T'.heap := by
    intro k q hq
    rw [z_w_get] at hq
    cases hc : (z_sct π π w2 ws)[k]? with
    | none => rw [hc] at hq; cases hq
    | some c =>
      rw [hc] at hq
      have := Option.some.inj hq
      subst this
      have hkn : k < n0 := by
        have := (List.getElem?_eq_some_iff.mp hc).1
        rw [z_sct_len] at this
        exact hlen ▸ this
      by_cases hin : k ∈ π
      · obtain ⟨j, hj⟩ := List.getElem?_of_mem hin
        have hj2 : j < w2.length := by rw [hl2, ← hwl]; exact (List.getElem?_eq_some_iff.mp hj).1
        have h4 := z_sct_in π π w2 ws j k w2[j] hnd hpl hj (List.getElem?_eq_getElem hj2)
        rw [hc] at h4
        have h5 := Option.some.inj h4
        subst h5
        have h6 := hP2 j _ (z_w_at (ad := fun k => ad (z_pl π k)) (cA := cA) (by rw [z_g_eq]; exact List.getElem?_eq_getElem hj2))
        rw [e1]
        show va_at D classes (ad k, z_e ad cA (z_ren π w2[j])) t.heap
        rw [z_e_ren]
        rw [z_pl_get hj] at h6
        exact h6
      · rw [z_sct_out π π w2 ws k hin] at hc
        have h4 := hP k _ (z_w_at (ad := ad) (cA := cA) (by rw [z_g_eq]; exact hc))
        refine h4.kept ?_
        dsimp only
        rw [e1]
        refine hk (ad k) (hlt k hkn) (fun h => ?_)
        rcases inC _ h with ⟨j, p, h5, h6⟩ | h
        · have h7 := hinj k p hkn (hlen ▸ hpl p (List.mem_of_getElem? h5)) h6
          exact hin (h7 ▸ List.mem_of_getElem? h5)
        · exact absurd (hlt k hkn) (by omega)
  have hS3 : va_S A s.heap T'.heap (locs ++ L) := ⟨Nat.le_trans hS.1 (by rw [e1]; exact hz), fun q h1 h2 => by rw [e1, hk q (Nat.lt_of_lt_of_le h1 hS.1) (fun z => h2 (hF q z))]; exact hS.2.1 q h1 h2, fun q hq => by
      rcases List.mem_append.mp hq with h | h
      · exact hS.2.2 q h
      · exact hF _ (hL q h)⟩
  have hst : ((v'.map (z_rv π)).toList ++ rest).map (z_v ad) = (v'.map (z_v fun k => ad (z_pl π k))).toList ++ rest.map (z_v ad) := by
    cases v' with
    | none => rfl
    | some v => simp [z_v_ren]
  have h8 := kk v' w2 hp hl2 (by rw [z_sct_len]; exact hlen) T'.heap (locs ++ L) ls' hP3 hS3 hl
  rw [hst] at h8
  obtain ⟨t2, a1, b1⟩ := h8 T' rfl X'
  exact ⟨t2, st t2 a1, b1⟩
theorem z_pre {p : Program} {l : Launch} {e : Env} {R : Room} {s : State} {m : MethodId} {args : Array Value} {below : List Frame} {meth : Method} {c : Code} {cells slots : Nat} {Q : State → Prop} {cc : ByteArray} {own : String} {D : va_G} {cA : Nat → ClassId} {ad : Nat → Nat} {A : Nat → Prop} {n0 nL : Nat} {sc : Option (Nat × (Int → Int))}
    (X : z_X p s m args c cc own D cA ad A n0 nL sc) {w' : zW} {π : List Nat} (hnd : π.Nodup) {ws : zW} (hw : π.map (z_g ws) = w'.map (fun c => some (z_ren π c)))
    {H : Heap} (hlen : ws.length = n0) (hP : va_P D classes (z_w ad cA ws) H) : va_P D classes (z_w (fun k => ad (z_pl π k)) cA w') H ∧ va_D (fun _ => True) (z_w (fun k => ad (z_pl π k)) cA w') := by
  obtain ⟨hx, hb, hml, hown, hts, hK, hN, hinj, hAd, hA0, hsc⟩ := X
  have hwl : π.length = w'.length := by
    have := congrArg List.length hw
    simpa using this
  have at0 : ∀ (k : Nat) (c : zC), w'[k]? = some c → ∃ p, π[k]? = some p ∧ ws[p]? = some (z_ren π c) := by
    intro k c hk
    have h1 : (π.map (z_g ws))[k]? = some (some (z_ren π c)) := by rw [hw, List.getElem?_map, hk]; rfl
    rw [List.getElem?_map] at h1
    cases hp : π[k]? with
    | none => rw [hp] at h1; cases h1
    | some p => rw [hp] at h1; exact ⟨p, rfl, by rw [← z_g_eq]; exact Option.some.inj h1⟩
  have atπ : ∀ k : Nat, k < w'.length → ∃ p, π[k]? = some p ∧ p < n0 := by
    intro k hk
    obtain ⟨p, h1, h2⟩ := at0 k w'[k] (List.getElem?_eq_getElem hk)
    exact ⟨p, h1, hlen ▸ (List.getElem?_eq_some_iff.mp h2).1⟩
  refine ⟨fun k q hq => ?_, z_D rfl (fun i j hi hj h => ?_) (fun _ _ => trivial)⟩
  · rw [z_w_get] at hq
    cases hc : w'[k]? with
    | none => rw [hc] at hq; cases hq
    | some c =>
      rw [hc] at hq
      have := Option.some.inj hq
      subst this
      obtain ⟨p, h1, h2⟩ := at0 k c hc
      have h4 := hP p _ (z_w_at (ad := ad) (cA := cA) (by rw [z_g_eq]; exact h2))
      rw [z_e_ren] at h4
      rw [z_pl_get h1]
      exact h4
  · obtain ⟨p, a1, a2⟩ := atπ i hi
    obtain ⟨q, b1, b2⟩ := atπ j hj
    rw [z_pl_get a1, z_pl_get b1] at h
    have h1 := hinj p q a2 b2 h
    subst h1
    exact (List.getElem?_inj (by rw [hwl]; exact hi) hnd).mp (a1.trans b1.symm)
theorem z_nx {cc : ByteArray} {nL : Nat} {tb : List (Nat × zI)} (h : tb.all (z_ent cc nL) = true) {pc : Nat} {q : zI} (hq : z_a tb pc = some q) (hi : (∃ i, q.1 = .invokevirtual i) ∨ (∃ i, q.1 = .invokestatic i) ∨ ∃ i, q.1 = .invokespecial i) : decode cc pc = .ok (q.1, 3) ∧ q.2.1 = pc + 3 := by
  obtain ⟨len, hd, hnx, hc⟩ := z_ent_spec h hq
  have : len = 3 := by
    rcases hi with ⟨i, hi⟩ | ⟨i, hi⟩ | ⟨i, hi⟩ <;> rw [hi] at hc <;> exact Nat.eq_of_beq_eq_true hc
  subst this
  exact ⟨hd, hnx⟩
theorem z_callV {p : Program} {l : Launch} {e : Env} {R : Room} {s : State} {m : MethodId} {args : Array Value} {below : List Frame} {meth : Method} {c : Code} {cells slots : Nat} {Q : State → Prop} {cc : ByteArray} {own : String} {D : va_G} {cA : Nat → ClassId} {ad : Nat → Nat} {A : Nat → Prop} {n0 nL : Nat} {sc : Option (Nat × (Int → Int))}
    (X : z_X p s m args c cc own D cA ad A n0 nL sc) {tb : List (Nat × zI)} (htb : tb.all (z_ent cc nL) = true) (hcr : cells ≤ R.cells ∧ slots ≤ R.slots)
    {y' : zM} {k0 : Nat} {As : List zV} {w' : zW} {P' : Option zV → zW → Prop} (hM : zMet y' (.inr (.inr k0) :: As) w' P') {n ci i : Nat} (hy : z_yV y' n ci) (hlk : Cond.methodLink own i y'.1 ∈ z_tbl)
    (hroom : y'.2.2.2.2.1 + 1 ≤ R.frames ∧ 8 + (y'.2.2.1 + 11) + y'.2.2.2.2.2 ≤ R.locals) (hn : As.length = n) {fs : List zV} (hk : z_g w' k0 = some (.inl (ci, fs)))
    (π : List Nat) (hnd : π.Nodup) {ws : zW} (hw : π.map (z_g ws) = w'.map (fun c => some (z_ren π c))) {pc nx : Nat} {ps : List Nat} {ls : zL} {st rest : List zV} (hpc : z_a tb pc = some (.invokevirtual i, (nx, ps)))
    (hst : st = (As.map (z_rv π)).reverse ++ .inr (.inr (z_pl π k0)) :: rest) (hcat : z_catsum rest ≤ 8)
    (kk : ∀ v w2, P' v w2 → w2.length = w'.length → z_G p l e R s m args below meth c cells slots Q D cA ad A n0 nL nx ls ((v.map (z_rv π)).toList ++ rest) (z_sct π π w2 ws)) : z_G p l e R s m args below meth c cells slots Q D cA ad A n0 nL pc ls st ws := by
  obtain ⟨hd, hnx⟩ := z_nx htb hpc (Or.inl ⟨i, rfl⟩)
  dsimp only at hd hnx
  subst hnx; subst hst
  intro hlen H locs ls' hP hS hl
  obtain ⟨hPc, hDc⟩ := z_pre (l := l) (e := e) (R := R) (below := below) (meth := meth) (cells := cells) (slots := slots) (Q := Q) X hnd hw hlen hP
  have X2 := X
  obtain ⟨hx, hb, hml, hown, hts, hK, hN, hinj, hAd, hA0, hsc⟩ := X2
  obtain ⟨⟨hy1, hy2, hy3⟩, hy4, hy5, T0, N0, hy6⟩ := hy
  have hrec := va_recv hK hPc hy6 (z_w_at (ad := fun k => ad (z_pl π k)) (cA := cA) hk)
  have hs1 : ((((As.map (z_rv π)).reverse ++ .inr (.inr (z_pl π k0)) :: rest)).map (z_v ad)) = (As.map (z_v fun k => ad (z_pl π k))).reverse ++ .ref (ad (z_pl π k0)) :: rest.map (z_v ad) := by
    rw [List.map_append, List.map_cons, List.map_reverse, List.map_map]
    have : As.map (z_v ad ∘ z_rv π) = As.map (z_v fun k => ad (z_pl π k)) := List.map_congr_left fun v _ => z_v_ren ad π v
    rw [this]; rfl
  rw [hs1]
  refine z_back X hnd hw hlen hP hS hl (av := ((.ref (ad (z_pl π k0)) : Value) :: As.map (z_v fun k => ad (z_pl π k))).toArray) ?_ kk
  exact va_runV ⟨hx, hb, hml, hown, hts⟩ (hM l D cA (fun k => ad (z_pl π k)) H.size) (index := i) (bytes := y'.2.1) (maxL := y'.2.2.1) (ret := y'.2.2.2.1) (n := n)
    ⟨callB_of n hts (z_goodIn hy3) rfl rfl rfl (hts _ hy2) (hts _ hlk) hy1 hroom, hts _ hy4, hts _ hy5⟩
    ⟨z_blind _ _ _ _ _ _, hrec, fun U hU hW => ⟨rfl, by rw [hU], by rw [hU]; exact hPc, va_K.moved hW.alike hK, z_N_warm hW hN, hDc⟩⟩ rfl (by simpa using hn) hl.1 rfl (lv_room (by rw [z_catsum_eq]; exact hcat)) hd ⟨by omega, by omega⟩
theorem z_callS {p : Program} {l : Launch} {e : Env} {R : Room} {s : State} {m : MethodId} {args : Array Value} {below : List Frame} {meth : Method} {c : Code} {cells slots : Nat} {Q : State → Prop} {cc : ByteArray} {own : String} {D : va_G} {cA : Nat → ClassId} {ad : Nat → Nat} {A : Nat → Prop} {n0 nL : Nat} {sc : Option (Nat × (Int → Int))}
    (X : z_X p s m args c cc own D cA ad A n0 nL sc) {tb : List (Nat × zI)} (htb : tb.all (z_ent cc nL) = true) (hcr : cells ≤ R.cells ∧ slots ≤ R.slots)
    {y' : zM} {As : List zV} {w' : zW} {P' : Option zV → zW → Prop} (hM : zMet y' As w' P') {n i : Nat} (hy : z_yS y' n) (hlk : z_lk1 own i y'.1)
    (hroom : y'.2.2.2.2.1 + 1 ≤ R.frames ∧ 8 + (y'.2.2.1 + 11) + y'.2.2.2.2.2 ≤ R.locals) (hn : As.length = n)
    (π : List Nat) (hnd : π.Nodup) {ws : zW} (hw : π.map (z_g ws) = w'.map (fun c => some (z_ren π c))) {pc nx : Nat} {ps : List Nat} {ls : zL} {st rest : List zV} (hpc : z_a tb pc = some (.invokestatic i, (nx, ps)))
    (hst : st = (As.map (z_rv π)).reverse ++ rest) (hcat : z_catsum rest ≤ 8)
    (kk : ∀ v w2, P' v w2 → w2.length = w'.length → z_G p l e R s m args below meth c cells slots Q D cA ad A n0 nL nx ls ((v.map (z_rv π)).toList ++ rest) (z_sct π π w2 ws)) : z_G p l e R s m args below meth c cells slots Q D cA ad A n0 nL pc ls st ws := by
  obtain ⟨hd, hnx⟩ := z_nx htb hpc (Or.inr (Or.inl ⟨i, rfl⟩))
  dsimp only at hd hnx
  subst hnx; subst hst
  intro hlen H locs ls' hP hS hl
  obtain ⟨hPc, hDc⟩ := z_pre (l := l) (e := e) (R := R) (below := below) (meth := meth) (cells := cells) (slots := slots) (Q := Q) X hnd hw hlen hP
  have X2 := X
  obtain ⟨hx, hb, hml, hown, hts, hK, hN, hinj, hAd, hA0, hsc⟩ := X2
  obtain ⟨⟨hy1, hy2, hy3⟩, hy4⟩ := hy
  have hs1 : ((((As.map (z_rv π)).reverse ++ rest)).map (z_v ad)) = (As.map (z_v fun k => ad (z_pl π k))).reverse ++ rest.map (z_v ad) := by
    rw [List.map_append, List.map_reverse, List.map_map]
    have : As.map (z_v ad ∘ z_rv π) = As.map (z_v fun k => ad (z_pl π k)) := List.map_congr_left fun v _ => z_v_ren ad π v
    rw [this]
  rw [hs1]
  have hpS : PreS s H (va_Pc (As.map (z_v fun k => ad (z_pl π k))) (z_Pre D cA (fun k => ad (z_pl π k)) w' H.size)) (As.map (z_v fun k => ad (z_pl π k))) := ⟨z_blind _ _ _ _ _ _, fun U hU hW => ⟨rfl, by rw [hU], by rw [hU]; exact hPc, va_K.moved hW.alike hK, z_N_warm hW hN, hDc⟩⟩
  refine z_back X hnd hw hlen hP hS hl (av := (As.map (z_v fun k => ad (z_pl π k))).toArray) ?_ kk
  rcases hlk with hlk | ⟨host, hlk⟩
  · exact va_runS ⟨hx, hb, hml, hown, hts⟩ (hM l D cA (fun k => ad (z_pl π k)) H.size) (index := i) (bytes := y'.2.1) (maxL := y'.2.2.1) (ret := y'.2.2.2.1) (n := n)
      ⟨callB_of n hts (z_goodIn hy3) rfl rfl rfl (hts _ hy2) (hts _ hlk) hy1 hroom, hts _ hy4⟩
      hpS rfl (by simpa using hn) hl.1 rfl (lv_room (by rw [z_catsum_eq]; exact hcat)) hd ⟨by omega, by omega⟩
  · exact va_runSN ⟨hx, hb, hml, hown, hts⟩ (hM l D cA (fun k => ad (z_pl π k)) H.size) (index := i) (bytes := y'.2.1) (maxL := y'.2.2.1) (ret := y'.2.2.2.1) (n := n) (host := host)
      ⟨va_cnB n hts (z_goodIn hy3) rfl rfl rfl (hN _ hlk) (hts _ hy2) hy1 hroom, hts _ hy4, trivial⟩
      hpS rfl (by simpa using hn) hl.1 rfl (lv_room (by rw [z_catsum_eq]; exact hcat)) hd ⟨by omega, by omega⟩
end
section
/-! THE RULES OF A METHOD'S BODY: what a proof may use of the unknown G -/
def z_cpy (f g : Int → Int) (n : Int) : Int → Int := fun j => if 0 ≤ j ∧ j < n then f j else g j
theorem z_copy {p : Program} {l : Launch} {e : Env} {R : Room} {s : State} {m : MethodId} {args : Array Value} {below : List Frame} {meth : Method} {c : Code} {cells slots : Nat} {Q : State → Prop} {cc : ByteArray} {own : String} {D : va_G} {cA : Nat → ClassId} {ad : Nat → Nat} {A : Nat → Prop} {n0 nL : Nat} {sc : Option (Nat × (Int → Int))}
    (X : z_X p s m args c cc own D cA ad A n0 nL sc) {tb : List (Nat × zI)} (htb : tb.all (z_ent cc nL) = true)
    {i : Nat} (hlk : Cond.methodLink own i arraycopyName ∈ z_tbl) (hroom : 1 ≤ R.frames ∧ 60 ≤ R.locals)
    {ws : zW} {q0 q1 t0 t1 n1 n2 : Nat} {f g : Int → Int} {n : Int} (h0 : z_g ws q0 = some (.inr (t0, (n1, .inl f)))) (h1 : z_g ws q1 = some (.inr (t1, (n2, .inl g)))) (hn : (0 ≤ n ∧ n ≤ 2147483647) ∧ n ≤ (n1 : Int) ∧ n ≤ (n2 : Int))
    {pc nx : Nat} {ps : List Nat} {ls : zL} {rest : List zV} (hpc : z_a tb pc = some (.invokestatic i, (nx, ps))) (hcat : z_catsum rest ≤ 8)
    (kk : z_G p l e R s m args below meth c cells slots Q D cA ad A n0 nL nx ls rest (z_s ws q1 (.inr (t1, (n2, .inl (z_cpy f g n)))))) : z_G p l e R s m args below meth c cells slots Q D cA ad A n0 nL pc ls (.inl n :: .inl 0 :: .inr (.inr q1) :: .inl 0 :: .inr (.inr q0) :: rest) ws := by
  obtain ⟨hd, hnx⟩ := z_nx htb hpc (Or.inr (Or.inl ⟨i, rfl⟩))
  dsimp only at hd hnx
  subst hnx
  intro hlen H locs ls' hP hS hl
  obtain ⟨hx, hb, hml, hown, hts, hK, hN, hinj, hAd, hA0, hsc⟩ := X
  have hD : va_D A (z_w ad cA ws) := z_D hlen hinj hAd
  have e0 : (Int32.ofInt 0).toNatClampNeg = 0 := by decide
  have en : (((Int32.ofInt n).toNatClampNeg : Nat) : Int) = n := z_cl (n := n.toNat + 1) (by omega)
  have hfun : va_cpy (fun j : Nat => Int32.ofInt (f (j : Int))) (fun j : Nat => Int32.ofInt (g (j : Int))) (Int32.ofInt 0).toNatClampNeg (Int32.ofInt 0).toNatClampNeg (Int32.ofInt n).toNatClampNeg = fun j : Nat => Int32.ofInt (z_cpy f g n (j : Int)) := by
    funext j
    unfold va_cpy z_cpy
    rw [e0]
    by_cases hj : (j : Int) < n
    · rw [if_pos (by omega), if_pos (by omega)]
      simp
    · rw [if_neg (by omega), if_neg (by omega)]
  refine va_copyi hx hb (hml.trans hl.1.symm) hown (hts _ hlk) (hts _ (z_mem 374 (by decide +kernel) (by decide +kernel))) (hts _ (z_mem 373 (by decide +kernel) (by decide +kernel))) (hts _ (z_mem 58 (by decide +kernel) (by decide +kernel))) hK hP hD hS q0 q1 0 0 (z_w_at (ad := ad) (cA := cA) h0) (z_w_at (ad := ad) (cA := cA) h1) rfl rfl rfl ?_ ?_ ?_ ?_ ?_ ?_ hroom.1 ?_ hd (fun H1 locs1 hP1 _ hS1 => ?_)
  · decide
  · decide
  · rw [show (0 : Int32) = Int32.ofInt 0 from rfl, z_rlt (by omega) (by omega)]; omega
  · rw [e0]; omega
  · rw [e0]; omega
  · intro k _; rfl
  · rw [z_catsum_eq]
    have : nativeFrameWords "java/lang/System" "arraycopy" 5 + 11 ≤ 52 := by decide +kernel
    omega
  · rw [hfun] at hP1
    exact kk (by rw [z_s_len]; exact hlen) H1 locs1 ls' (by rw [z_w_set]; exact hP1) hS1 hl
/-- cells that say the same of the heap: rows of references may differ behind their end -/
def z_ceq (c c' : zC) : Prop := c = c' ∨ ∃ (t n : Nat) (f f' : Int → Nat), c = .inr (t, (n, .inr (.inr f))) ∧ c' = .inr (t, (n, .inr (.inr f'))) ∧ ∀ j : Nat, j < n → f j = f' j
def z_weq : zW → zW → Prop
  | [], [] => True
  | c :: w, c' :: w' => z_ceq c c' ∧ z_weq w w'
  | _, _ => False
theorem z_weq_at : ∀ {w w' : zW}, z_weq w w' → w.length = w'.length ∧ ∀ (k : Nat) (c' : zC), w'[k]? = some c' → ∃ c, w[k]? = some c ∧ z_ceq c c'
  | [], [], _ => ⟨rfl, fun k c' h => by simp at h⟩
  | [], _ :: _, h => h.elim
  | _ :: _, [], h => h.elim
  | c :: w, c' :: w', h => by
    obtain ⟨h1, h2⟩ := z_weq_at h.2
    refine ⟨by simp [h1], fun k d hk => ?_⟩
    cases k with
    | zero => exact ⟨c, rfl, by have : c' = d := by simpa using hk
                                rw [← this]; exact h.1⟩
    | succ k => exact h2 k d (by simpa using hk)
theorem z_weq_P {D : va_G} {cA : Nat → ClassId} {ad : Nat → Nat} {w w' : zW} {H : Heap} (h : z_weq w w') (hP : va_P D classes (z_w ad cA w) H) : va_P D classes (z_w ad cA w') H := by
  intro k q hq
  rw [z_w_get] at hq
  cases hc : w'[k]? with
  | none => rw [hc] at hq; cases hq
  | some c' =>
    rw [hc] at hq
    have := Option.some.inj hq
    subst this
    obtain ⟨c, h1, h2⟩ := (z_weq_at h).2 k c' hc
    have h4 := hP k _ (z_w_at (ad := ad) (cA := cA) (by rw [z_g_eq]; exact h1))
    rcases h2 with rfl | ⟨t, n, f, f', rfl, rfl, hf⟩
    · exact h4
    · have e : vp_cell (cA (2 + t)) (n, .inr (.inr (.inr (.inr (fun j : Nat => some (ad (f (j : Int)))))))) = vp_cell (cA (2 + t)) (n, .inr (.inr (.inr (.inr (fun j : Nat => some (ad (f' (j : Int)))))))) := by
        simp only [vp_cell, arrV]
        congr 2
        funext j
        rw [hf j.val j.isLt]
      show H[ad k]? = some (vp_cell (cA (2 + t)) (n, .inr (.inr (.inr (.inr (fun j : Nat => some (ad (f' (j : Int)))))))))
      rw [← e]; exact h4
theorem z_weq_rf : ∀ w : zW, z_weq w w
  | [] => trivial
  | _ :: w => ⟨Or.inl rfl, z_weq_rf w⟩
theorem z_weq_app : ∀ {a a' b b' : zW}, z_weq a a' → z_weq b b' → z_weq (a ++ b) (a' ++ b')
  | [], [], _, _, _, h => h
  | [], _ :: _, _, _, h, _ => h.elim
  | _ :: _, [], _, _, h, _ => h.elim
  | _ :: _, _ :: _, _, _, h, h2 => ⟨h.1, z_weq_app h.2 h2⟩
def z_rok (ret : Option FieldType) (v : Option zV) : Prop := match ret, v with
  | none, none => True
  | some .int, some (.inl _) => True
  | some .boolean, some (.inl x) => x = 0 ∨ x = 1
  | some .long, some (.inr (.inl _)) => True
  | _, _ => False
def z_Rr (ret : Option FieldType) (P : Option zV → zW → Prop) : Option zV → zW → Prop := fun v w => z_rok ret v ∧ P v w
def z_args : Nat → List zV → zL
  | _, [] => []
  | i, v :: vs => (i, v) :: z_args (bif z_isL v then i + 2 else i + 1) vs
theorem z_args_eq (ad : Nat → Nat) : ∀ (i : Nat) (vs : List zV), z_l ad (z_args i vs) = lv_args i (vs.map (z_v ad))
  | _, [] => rfl
  | i, v :: vs => by
    have e : (bif z_isL v then i + 2 else i + 1) = (if (z_v ad v).category = 2 then i + 2 else i + 1) := by
      rcases v with x | x | x <;> rfl
    show (i, z_v ad v) :: z_l ad (z_args _ vs) = (i, z_v ad v) :: lv_args _ (vs.map (z_v ad))
    rw [z_args_eq ad _ vs, e]
theorem z_sl (ad : Nat → Nat) : ∀ vs : List zV, (lg_sl (vs.map (z_v ad))).length = z_catsum vs
  | [] => rfl
  | v :: vs => by
    have := z_sl ad vs
    simp only [lg_sl, List.map_cons, List.flatMap_cons, List.length_append, z_catsum] at this ⊢
    rw [this]
    rcases v with x | x | x <;> rfl
/-- the run of instructions up to a stop, a call, a return -/
def z_rules (y : zM) (own : String) (tb : List (Nat × zI)) (ft : List (Nat × (Nat × (Nat × Nat)))) (ct : List (Nat × Int) × List (Nat × Int)) (P : Option zV → zW → Prop) (n0 : Nat) (G : zG) : Prop :=
  (∀ (stops : List Nat) (n : Nat) (pc : Nat) (ls : zL) (st : List zV) (ws : zW), z_run tb ft ct none (z_Rr y.2.2.2.1 P) stops G n pc ls st ws → G pc ls st ws) ∧
  (∀ {y' : zM} {k0 : Nat} {As : List zV} {w' : zW} {P' : Option zV → zW → Prop} (_ : zMet y' (.inr (.inr k0) :: As) w' P') {n ci i : Nat} (_ : z_yV y' n ci) (_ : Cond.methodLink own i y'.1 ∈ z_tbl)
    (_ : y'.2.2.2.2.1 + 1 ≤ y.2.2.2.2.1 ∧ 8 + (y'.2.2.1 + 11) + y'.2.2.2.2.2 ≤ y.2.2.2.2.2) (_ : As.length = n) {fs : List zV} (_ : z_g w' k0 = some (.inl (ci, fs)))
    (π : List Nat) (_ : π.Nodup) {ws : zW} (_ : π.map (z_g ws) = w'.map (fun c => some (z_ren π c))) {pc nx : Nat} {ps : List Nat} {ls : zL} {st rest : List zV} (_ : z_a tb pc = some (.invokevirtual i, (nx, ps)))
    (_ : st = (As.map (z_rv π)).reverse ++ .inr (.inr (z_pl π k0)) :: rest) (_ : z_catsum rest ≤ 8)
    (_ : ∀ v w2, P' v w2 → w2.length = w'.length → G nx ls ((v.map (z_rv π)).toList ++ rest) (z_sct π π w2 ws)), G pc ls st ws) ∧
  (∀ {y' : zM} {As : List zV} {w' : zW} {P' : Option zV → zW → Prop} (_ : zMet y' As w' P') {n i : Nat} (_ : z_yS y' n) (_ : z_lk1 own i y'.1)
    (_ : y'.2.2.2.2.1 + 1 ≤ y.2.2.2.2.1 ∧ 8 + (y'.2.2.1 + 11) + y'.2.2.2.2.2 ≤ y.2.2.2.2.2) (_ : As.length = n)
    (π : List Nat) (_ : π.Nodup) {ws : zW} (_ : π.map (z_g ws) = w'.map (fun c => some (z_ren π c))) {pc nx : Nat} {ps : List Nat} {ls : zL} {st rest : List zV} (_ : z_a tb pc = some (.invokestatic i, (nx, ps)))
    (_ : st = (As.map (z_rv π)).reverse ++ rest) (_ : z_catsum rest ≤ 8)
    (_ : ∀ v w2, P' v w2 → w2.length = w'.length → G nx ls ((v.map (z_rv π)).toList ++ rest) (z_sct π π w2 ws)), G pc ls st ws) ∧
  (∀ {i : Nat} (_ : Cond.methodLink own i arraycopyName ∈ z_tbl) (_ : 1 ≤ y.2.2.2.2.1 ∧ 60 ≤ y.2.2.2.2.2)
    {ws : zW} {q0 q1 t0 t1 n1 n2 : Nat} {f g : Int → Int} {n : Int} (_ : z_g ws q0 = some (.inr (t0, (n1, .inl f)))) (_ : z_g ws q1 = some (.inr (t1, (n2, .inl g)))) (_ : (0 ≤ n ∧ n ≤ 2147483647) ∧ n ≤ (n1 : Int) ∧ n ≤ (n2 : Int))
    {pc nx : Nat} {ps : List Nat} {ls : zL} {rest : List zV} (_ : z_a tb pc = some (.invokestatic i, (nx, ps))) (_ : z_catsum rest ≤ 8)
    (_ : G nx ls rest (z_s ws q1 (.inr (t1, (n2, .inl (z_cpy f g n)))))), G pc ls (.inl n :: .inl 0 :: .inr (.inr q1) :: .inl 0 :: .inr (.inr q0) :: rest) ws) ∧
  (∀ {pc : Nat} {ls l' : zL} {st : List zV} {ws : zW}, (∀ q ∈ l', q ∈ ls) → G pc l' st ws → G pc ls st ws) ∧
  (∀ {pc : Nat} {ls : zL} {st : List zV} {ws : zW}, (ws.length = n0 → G pc ls st ws) → G pc ls st ws) ∧
  (∀ {pc : Nat} {ls : zL} {st : List zV} {ws ws' : zW}, z_weq ws ws' → G pc ls st ws' → G pc ls st ws)
theorem zMet.of {y : zM} {As : List zV} {w : zW} {P : Option zV → zW → Prop} {own : String} (hyc : y.1.cls = own) (hyp : plainFor y.1 = true) {tb : List (Nat × zI)} {ft : List (Nat × (Nat × (Nat × Nat)))} {ct : List (Nat × Int) × List (Nat × Int)}
    (htb : tb.all (z_ent y.2.1 y.2.2.1) = true) (hft : z_fok own ft) (hct : z_cok own ct) (hA : z_catsum As ≤ y.2.2.1)
    (body : ∀ G : zG, z_rules y own tb ft ct P w.length G → G 0 (z_args 0 As) [] w) : zMet y As w P := by
  intro l D cA ad sz
  refine va_MetF (cc := y.2.1) (maxL := y.2.2.1) (ret := y.2.2.2.1) hyp rfl ?_
  intro p e s m args below meth c s₁ B hml hv
  obtain ⟨rfl, hsz, hP, hK, hN, hD0⟩ := hv
  have hts0 := atoms_spec (ws := z_ws y) B.pre
  have hts : ∀ w ∈ z_tbl, w.before (As.map (z_v ad)).toArray s = true := fun w hw => hts0 w (List.mem_cons_of_mem _ hw)
  have hown : s.vm.findClass own = some m.cls := by rw [← hyc]; exact findClass_of_methodNamed B.named
  subst hsz
  have hinj : ∀ i j : Nat, i < w.length → j < w.length → ad i = ad j → i = j := fun i j hi hj h =>
    hD0.1 i j _ _ (z_w_at (ad := ad) (cA := cA) (by rw [z_g_eq]; exact List.getElem?_eq_getElem hi)) (z_w_at (ad := ad) (cA := cA) (by rw [z_g_eq]; exact List.getElem?_eq_getElem hj)) h
  have hAd : ∀ k : Nat, k < w.length → va_A (z_w ad cA w) s.heap.size (ad k) := fun k hk => va_A.in (q := (ad k, _)) (z_w_at (ad := ad) (cA := cA) (by rw [z_g_eq]; exact List.getElem?_eq_getElem hk))
  have X : z_X p s m (As.map (z_v ad)).toArray c y.2.1 own D cA ad (va_A (z_w ad cA w) s.heap.size) w.length y.2.2.1 none := ⟨B.exec, B.bytes, hml, hown, hts, hK, hN, hinj, hAd, fun q h => Or.inr h, trivial⟩
  have hR : z_RR y.2.1 (z_Rr y.2.2.2.1 P) (z_G p l e (z_rm y) s m (As.map (z_v ad)).toArray below meth c 0 0 (MQ below (z_Qc D cA ad w s.heap.size P) (As.map (z_v ad)).toArray s 0 0 (va_A (z_w ad cA w) s.heap.size)) D cA ad (va_A (z_w ad cA w) s.heap.size) w.length y.2.2.1) := by
    refine ⟨fun pc ls x ws hd h hlen H locs ls' hP hS hl => ?_, fun pc ls x ws hd h hlen H locs ls' hP hS hl => ?_, fun pc ls ws hd h hlen H locs ls' hP hS hl => ?_⟩
    · obtain ⟨h1, h2⟩ := h
      have hq : ∀ t : State, t.heap = H → s.WarmedH t.vm → z_Qc D cA ad w s.heap.size P (As.map (z_v ad)).toArray s (.returned (some (.int (Int32.ofInt x)))) t := fun t ht hW => ⟨⟨some (.inl x), ws, rfl, h2, hlen, by rw [ht]; exact hP⟩, hS.F ht⟩
      have hr := B.returns
      cases hret : y.2.2.2.1 with
      | none => rw [hret] at h1; exact h1.elim
      | some ty =>
        rw [hret] at h1 hr
        cases ty
        case int => exact W.zret B.exec B.bytes hr rfl hq hS.2.2 hd (hlocks := B.notSynchronized)
        case boolean => exact W.zret B.exec B.bytes hr (by rcases h1 with rfl | rfl <;> decide) hq hS.2.2 hd (hlocks := B.notSynchronized)
        all_goals exact h1.elim
    · obtain ⟨h1, h2⟩ := h
      have hq : ∀ t : State, t.heap = H → s.WarmedH t.vm → z_Qc D cA ad w s.heap.size P (As.map (z_v ad)).toArray s (.returned (some (.long (Int64.ofInt x)))) t := fun t ht hW => ⟨⟨some (.inr (.inl x)), ws, rfl, h2, hlen, by rw [ht]; exact hP⟩, hS.F ht⟩
      have hr := B.returns
      cases hret : y.2.2.2.1 with
      | none => rw [hret] at h1; exact h1.elim
      | some ty =>
        rw [hret] at h1 hr
        cases ty
        case long => exact W.lret B.exec B.bytes hr hq hS.2.2 hd (hlocks := B.notSynchronized)
        all_goals exact h1.elim
    · obtain ⟨h1, h2⟩ := h
      have hq : ∀ t : State, t.heap = H → s.WarmedH t.vm → z_Qc D cA ad w s.heap.size P (As.map (z_v ad)).toArray s (.returned none) t := fun t ht hW => ⟨⟨none, ws, rfl, h2, hlen, by rw [ht]; exact hP⟩, hS.F ht⟩
      have hr := B.returns
      cases hret : y.2.2.2.1 with
      | some ty =>
        rw [hret] at h1
        cases ty <;> exact h1.elim
      | none =>
        rw [hret] at hr
        exact W.vret B.exec B.bytes hr hq hS.2.2 hd (hlocks := B.notSynchronized)
  have K := body _ ⟨fun stops n pc ls st ws h => z_go X htb hft hct hR stops n pc ls st ws h,
    @fun y' k0 As2 w' P' hM n ci i hy hlk hroom hn fs hk π hnd ws hw pc nx ps ls st rest hpc hst hcat kk => z_callV X htb ⟨Nat.zero_le _, Nat.zero_le _⟩ hM hy hlk hroom hn hk π hnd hw hpc hst hcat kk,
    @fun y' As2 w' P' hM n i hy hlk hroom hn π hnd ws hw pc nx ps ls st rest hpc hst hcat kk => z_callS X htb ⟨Nat.zero_le _, Nat.zero_le _⟩ hM hy hlk hroom hn π hnd hw hpc hst hcat kk,
    fun {i} hlk hroom {ws q0 q1 t0 t1 n1 n2 f g n} h0 h1 hn {pc nx ps ls rest} hpc hcat kk => z_copy X htb hlk hroom h0 h1 hn hpc hcat kk,
    fun {pc ls l' st ws} hs h hlen H locs ls' hP hS hl => h hlen H locs ls' hP hS (z_has_sub (fun q hq => by
      obtain ⟨u, hu, rfl⟩ := List.mem_map.mp hq
      exact List.mem_map.mpr ⟨u, hs u hu, rfl⟩) hl),
    fun {pc ls st ws} h hlen => h hlen hlen,
    fun {pc ls st ws ws'} hq h hlen H locs ls' hP hS hl => h (by rw [← (z_weq_at hq).1]; exact hlen) H locs ls' (z_weq_P hq hP) hS hl⟩
  rw [lg_entry_eq]
  have hl0 := lv_entry (As.map (z_v ad)) (n := y.2.2.1) (by rw [z_sl]; exact hA)
  exact K rfl s.heap [] _ hP va_S.rf (by rw [z_args_eq]; exact hl0)
end
section
/-! TABLES: the JDK and the small classes -/
def ft_Jm : List (Nat × (Nat × (Nat × Nat))) := []
theorem fok_Jm : z_fok "java/lang/Math" ft_Jm := fun _ h => absurd h List.not_mem_nil
def ct_Jm : List (Nat × Int) × List (Nat × Int) := ([], [])
theorem cok_Jm : z_cok "java/lang/Math" ct_Jm := ⟨fun _ h => absurd h List.not_mem_nil, fun _ h => absurd h List.not_mem_nil⟩
def tb_Ja_abs : List (Nat × zI) := [(0, (.iload_n 0, (1, [0]))), (1, (.ifCond .ge 8, (4, [9]))), (4, (.iload_n 0, (5, [0]))), (5, (.ineg, (6, []))), (6, (.goto 4, (9, [10]))), (9, (.iload_n 0, (10, [0]))), (10, (.ireturn, (11, [])))]
abbrev m_Ja_abs : zM := ((⟨"java/lang/Math", "abs", "(I)I"⟩ : MethodName), (prog_11_method_59_code, (1, (some .int, (0, 0)))))
set_option maxRecDepth 20000 in
theorem tk_Ja_abs : tb_Ja_abs.all (z_ent m_Ja_abs.2.1 m_Ja_abs.2.2.1) = true := by decide +kernel
theorem ys_Ja_abs : z_yS m_Ja_abs 1 := ⟨⟨⟨by decide +kernel, by decide +kernel, by decide +kernel⟩, z_mem 57 (by decide +kernel) (by decide +kernel), z_mem 446 (by decide +kernel) (by decide +kernel)⟩, z_mem 445 (by decide +kernel) (by decide +kernel)⟩
def tb_Ja_min : List (Nat × zI) := [(0, (.iload_n 0, (1, [0]))), (1, (.iload_n 1, (2, [1]))), (2, (.if_icmp .gt 7, (5, [9]))), (5, (.iload_n 0, (6, [0]))), (6, (.goto 4, (9, [10]))), (9, (.iload_n 1, (10, [1]))), (10, (.ireturn, (11, [])))]
abbrev m_Ja_min : zM := ((⟨"java/lang/Math", "min", "(II)I"⟩ : MethodName), (prog_11_method_69_code, (2, (some .int, (0, 0)))))
set_option maxRecDepth 20000 in
theorem tk_Ja_min : tb_Ja_min.all (z_ent m_Ja_min.2.1 m_Ja_min.2.2.1) = true := by decide +kernel
theorem ys_Ja_min : z_yS m_Ja_min 2 := ⟨⟨⟨by decide +kernel, by decide +kernel, by decide +kernel⟩, z_mem 57 (by decide +kernel) (by decide +kernel), z_mem 349 (by decide +kernel) (by decide +kernel)⟩, z_mem 348 (by decide +kernel) (by decide +kernel)⟩
def ft_Ji : List (Nat × (Nat × (Nat × Nat))) := []
theorem fok_Ji : z_fok "java/lang/Integer" ft_Ji := fun _ h => absurd h List.not_mem_nil
def ct_Ji : List (Nat × Int) × List (Nat × Int) := ([(265, 1431655765), (266, 858993459), (267, 252645135)], [])
theorem cok_Ji : z_cok "java/lang/Integer" ct_Ji := ⟨List.forall_mem_cons.mpr ⟨z_mem 569 (by decide +kernel) (by decide +kernel), List.forall_mem_cons.mpr ⟨z_mem 570 (by decide +kernel) (by decide +kernel), List.forall_mem_cons.mpr ⟨z_mem 571 (by decide +kernel) (by decide +kernel), fun _ h => absurd h List.not_mem_nil⟩⟩⟩, fun _ h => absurd h List.not_mem_nil⟩
def tb_Ja_bitCount : List (Nat × zI) := [(0, (.iload_n 0, (1, [0]))), (1, (.iload_n 0, (2, [0]))), (2, (.iconst 1, (3, []))), (3, (.iushr, (4, []))), (4, (.ldc_w 265, (7, []))), (7, (.iand, (8, []))), (8, (.isub, (9, []))), (9, (.istore_n 0, (10, [0]))), (10, (.iload_n 0, (11, [0]))), (11, (.ldc_w 266, (14, []))), (14, (.iand, (15, []))), (15, (.iload_n 0, (16, [0]))), (16, (.iconst 2, (17, []))), (17, (.iushr, (18, []))), (18, (.ldc_w 266, (21, []))), (21, (.iand, (22, []))), (22, (.iadd, (23, []))), (23, (.istore_n 0, (24, [0]))), (24, (.iload_n 0, (25, [0]))), (25, (.iload_n 0, (26, [0]))), (26, (.iconst 4, (27, []))), (27, (.iushr, (28, []))), (28, (.iadd, (29, []))), (29, (.ldc_w 267, (32, []))), (32, (.iand, (33, []))), (33, (.istore_n 0, (34, [0]))), (34, (.iload_n 0, (35, [0]))), (35, (.iload_n 0, (36, [0]))), (36, (.bipush 8, (38, []))), (38, (.iushr, (39, []))), (39, (.iadd, (40, []))), (40, (.istore_n 0, (41, [0]))), (41, (.iload_n 0, (42, [0]))), (42, (.iload_n 0, (43, [0]))), (43, (.bipush 16, (45, []))), (45, (.iushr, (46, []))), (46, (.iadd, (47, []))), (47, (.istore_n 0, (48, [0]))), (48, (.iload_n 0, (49, [0]))), (49, (.bipush 63, (51, []))), (51, (.iand, (52, []))), (52, (.ireturn, (53, [])))]
abbrev m_Ja_bitCount : zM := ((⟨"java/lang/Integer", "bitCount", "(I)I"⟩ : MethodName), (prog_10_method_49_code, (1, (some .int, (0, 0)))))
set_option maxRecDepth 20000 in
theorem tk_Ja_bitCount : tb_Ja_bitCount.all (z_ent m_Ja_bitCount.2.1 m_Ja_bitCount.2.2.1) = true := by decide +kernel
theorem ys_Ja_bitCount : z_yS m_Ja_bitCount 1 := ⟨⟨⟨by decide +kernel, by decide +kernel, by decide +kernel⟩, z_mem 59 (by decide +kernel) (by decide +kernel), z_mem 568 (by decide +kernel) (by decide +kernel)⟩, z_mem 567 (by decide +kernel) (by decide +kernel)⟩
def tb_Co_size : List (Nat × zI) := [(0, (.aload_n 0, (1, [0]))), (1, (.getfield 18, (4, []))), (4, (.ireturn, (5, [])))]
abbrev m_Co_size : zM := (yX0_size, (cX0_size, (1, (some .int, (0, 0)))))
set_option maxRecDepth 20000 in
theorem tk_Co_size : tb_Co_size.all (z_ent m_Co_size.2.1 m_Co_size.2.2.1) = true := by decide +kernel
theorem yv_Co_size : z_yV m_Co_size 0 0 := ⟨⟨⟨by decide +kernel, by decide +kernel, by decide +kernel⟩, z_mem 52 (by decide +kernel) (by decide +kernel), z_mem 225 (by decide +kernel) (by decide +kernel)⟩, z_mem 223 (by decide +kernel) (by decide +kernel), z_mem 224 (by decide +kernel) (by decide +kernel), TX0, 5, rfl⟩
def tb_Co_has : List (Nat × zI) := [(0, (.iload_n 1, (1, [1]))), (1, (.ifCond .lt 15, (4, [16]))), (4, (.iload_n 1, (5, [1]))), (5, (.aload_n 0, (6, [0]))), (6, (.getfield 18, (9, []))), (9, (.if_icmp .ge 7, (12, [16]))), (12, (.iconst 1, (13, []))), (13, (.goto 4, (16, [17]))), (16, (.iconst 0, (17, []))), (17, (.ireturn, (18, [])))]
abbrev m_Co_has : zM := (yX0_has, (cX0_has, (2, (some .boolean, (0, 0)))))
set_option maxRecDepth 20000 in
theorem tk_Co_has : tb_Co_has.all (z_ent m_Co_has.2.1 m_Co_has.2.2.1) = true := by decide +kernel
theorem yv_Co_has : z_yV m_Co_has 1 0 := ⟨⟨⟨by decide +kernel, by decide +kernel, by decide +kernel⟩, z_mem 52 (by decide +kernel) (by decide +kernel), z_mem 237 (by decide +kernel) (by decide +kernel)⟩, z_mem 235 (by decide +kernel) (by decide +kernel), z_mem 236 (by decide +kernel) (by decide +kernel), TX0, 5, rfl⟩
def tb_Co_kindOf : List (Nat × zI) := [(0, (.aload_n 0, (1, [0]))), (1, (.iload_n 1, (2, [1]))), (2, (.invokevirtual 28, (5, []))), (5, (.ifCond .eq 12, (8, [17]))), (8, (.aload_n 0, (9, [0]))), (9, (.getfield 9, (12, []))), (12, (.iload_n 1, (13, [1]))), (13, (.iaload, (14, []))), (14, (.goto 4, (17, [18]))), (17, (.iconst 0, (18, []))), (18, (.ireturn, (19, [])))]
abbrev m_Co_kindOf : zM := (yX0_kindOf, (cX0_kindOf, (2, (some .int, (1, 21)))))
set_option maxRecDepth 20000 in
theorem tk_Co_kindOf : tb_Co_kindOf.all (z_ent m_Co_kindOf.2.1 m_Co_kindOf.2.2.1) = true := by decide +kernel
theorem yv_Co_kindOf : z_yV m_Co_kindOf 1 0 := ⟨⟨⟨by decide +kernel, by decide +kernel, by decide +kernel⟩, z_mem 52 (by decide +kernel) (by decide +kernel), z_mem 245 (by decide +kernel) (by decide +kernel)⟩, z_mem 243 (by decide +kernel) (by decide +kernel), z_mem 244 (by decide +kernel) (by decide +kernel), TX0, 5, rfl⟩
def tb_Co_isNought : List (Nat × zI) := [(0, (.aload_n 0, (1, [0]))), (1, (.iload_n 1, (2, [1]))), (2, (.invokevirtual 32, (5, []))), (5, (.iconst 2, (6, []))), (6, (.if_icmp .ne 7, (9, [13]))), (9, (.iconst 1, (10, []))), (10, (.goto 4, (13, [14]))), (13, (.iconst 0, (14, []))), (14, (.ireturn, (15, [])))]
abbrev m_Co_isNought : zM := (yX0_isNought, (cX0_isNought, (2, (some .boolean, (2, 42)))))
set_option maxRecDepth 20000 in
theorem tk_Co_isNought : tb_Co_isNought.all (z_ent m_Co_isNought.2.1 m_Co_isNought.2.2.1) = true := by decide +kernel
theorem yv_Co_isNought : z_yV m_Co_isNought 1 0 := ⟨⟨⟨by decide +kernel, by decide +kernel, by decide +kernel⟩, z_mem 52 (by decide +kernel) (by decide +kernel), z_mem 241 (by decide +kernel) (by decide +kernel)⟩, z_mem 239 (by decide +kernel) (by decide +kernel), z_mem 240 (by decide +kernel) (by decide +kernel), TX0, 5, rfl⟩
def tb_Co_slipOf : List (Nat × zI) := [(0, (.aload_n 0, (1, [0]))), (1, (.iload_n 1, (2, [1]))), (2, (.invokevirtual 28, (5, []))), (5, (.ifCond .eq 12, (8, [17]))), (8, (.aload_n 0, (9, [0]))), (9, (.getfield 15, (12, []))), (12, (.iload_n 1, (13, [1]))), (13, (.iaload, (14, []))), (14, (.goto 4, (17, [18]))), (17, (.iconst 0, (18, []))), (18, (.ireturn, (19, [])))]
abbrev m_Co_slipOf : zM := (yX0_slipOf, (cX0_slipOf, (2, (some .int, (1, 21)))))
set_option maxRecDepth 20000 in
theorem tk_Co_slipOf : tb_Co_slipOf.all (z_ent m_Co_slipOf.2.1 m_Co_slipOf.2.2.1) = true := by decide +kernel
theorem yv_Co_slipOf : z_yV m_Co_slipOf 1 0 := ⟨⟨⟨by decide +kernel, by decide +kernel, by decide +kernel⟩, z_mem 52 (by decide +kernel) (by decide +kernel), z_mem 250 (by decide +kernel) (by decide +kernel)⟩, z_mem 248 (by decide +kernel) (by decide +kernel), z_mem 249 (by decide +kernel) (by decide +kernel), TX0, 5, rfl⟩
def tb_Co_putSlip : List (Nat × zI) := [(0, (.aload_n 0, (1, [0]))), (1, (.iload_n 1, (2, [1]))), (2, (.invokevirtual 28, (5, []))), (5, (.ifCond .eq 10, (8, [15]))), (8, (.aload_n 0, (9, [0]))), (9, (.getfield 15, (12, []))), (12, (.iload_n 1, (13, [1]))), (13, (.iload_n 2, (14, [2]))), (14, (.iastore, (15, []))), (15, (.return_, (16, [])))]
abbrev m_Co_putSlip : zM := (yX0_putSlip, (cX0_putSlip, (3, (none, (1, 21)))))
set_option maxRecDepth 20000 in
theorem tk_Co_putSlip : tb_Co_putSlip.all (z_ent m_Co_putSlip.2.1 m_Co_putSlip.2.2.1) = true := by decide +kernel
theorem yv_Co_putSlip : z_yV m_Co_putSlip 2 0 := ⟨⟨⟨by decide +kernel, by decide +kernel, by decide +kernel⟩, z_mem 52 (by decide +kernel) (by decide +kernel), z_mem 254 (by decide +kernel) (by decide +kernel)⟩, z_mem 252 (by decide +kernel) (by decide +kernel), z_mem 253 (by decide +kernel) (by decide +kernel), TX0, 5, rfl⟩
def tb_Co_seat : List (Nat × zI) := [(0, (.aload_n 0, (1, [0]))), (1, (.getfield 18, (4, []))), (4, (.bipush 9, (6, []))), (6, (.if_icmp .ge 33, (9, [39]))), (9, (.aload_n 0, (10, [0]))), (10, (.getfield 9, (13, []))), (13, (.aload_n 0, (14, [0]))), (14, (.getfield 18, (17, []))), (17, (.iload_n 1, (18, [1]))), (18, (.iastore, (19, []))), (19, (.aload_n 0, (20, [0]))), (20, (.getfield 15, (23, []))), (23, (.aload_n 0, (24, [0]))), (24, (.getfield 18, (27, []))), (27, (.iload_n 2, (28, [2]))), (28, (.iastore, (29, []))), (29, (.aload_n 0, (30, [0]))), (30, (.dup, (31, []))), (31, (.getfield 18, (34, []))), (34, (.iconst 1, (35, []))), (35, (.iadd, (36, []))), (36, (.putfield 18, (39, []))), (39, (.return_, (40, [])))]
abbrev m_Co_seat : zM := (yX0_seat, (cX0_seat, (3, (none, (0, 0)))))
set_option maxRecDepth 20000 in
theorem tk_Co_seat : tb_Co_seat.all (z_ent m_Co_seat.2.1 m_Co_seat.2.2.1) = true := by decide +kernel
theorem yv_Co_seat : z_yV m_Co_seat 2 0 := ⟨⟨⟨by decide +kernel, by decide +kernel, by decide +kernel⟩, z_mem 52 (by decide +kernel) (by decide +kernel), z_mem 229 (by decide +kernel) (by decide +kernel)⟩, z_mem 227 (by decide +kernel) (by decide +kernel), z_mem 228 (by decide +kernel) (by decide +kernel), TX0, 5, rfl⟩
def tb_Co_clear : List (Nat × zI) := [(0, (.aload_n 0, (1, [0]))), (1, (.iconst 0, (2, []))), (2, (.putfield 18, (5, []))), (5, (.return_, (6, [])))]
abbrev m_Co_clear : zM := (yX0_clear, (cX0_clear, (1, (none, (0, 0)))))
set_option maxRecDepth 20000 in
theorem tk_Co_clear : tb_Co_clear.all (z_ent m_Co_clear.2.1 m_Co_clear.2.2.1) = true := by decide +kernel
theorem yv_Co_clear : z_yV m_Co_clear 0 0 := ⟨⟨⟨by decide +kernel, by decide +kernel, by decide +kernel⟩, z_mem 52 (by decide +kernel) (by decide +kernel), z_mem 386 (by decide +kernel) (by decide +kernel)⟩, z_mem 384 (by decide +kernel) (by decide +kernel), z_mem 385 (by decide +kernel) (by decide +kernel), TX0, 5, rfl⟩
def tb_Co_changeWho : List (Nat × zI) := [(0, (.aload_n 0, (1, [0]))), (1, (.getfield 22, (4, []))), (4, (.istore_n 2, (5, [2]))), (5, (.aload_n 0, (6, [0]))), (6, (.iload_n 1, (7, [1]))), (7, (.putfield 22, (10, []))), (10, (.iload_n 2, (11, [2]))), (11, (.ireturn, (12, [])))]
abbrev m_Co_changeWho : zM := (yX0_changeWho, (cX0_changeWho, (3, (some .int, (0, 0)))))
set_option maxRecDepth 20000 in
theorem tk_Co_changeWho : tb_Co_changeWho.all (z_ent m_Co_changeWho.2.1 m_Co_changeWho.2.2.1) = true := by decide +kernel
theorem yv_Co_changeWho : z_yV m_Co_changeWho 1 0 := ⟨⟨⟨by decide +kernel, by decide +kernel, by decide +kernel⟩, z_mem 52 (by decide +kernel) (by decide +kernel), z_mem 293 (by decide +kernel) (by decide +kernel)⟩, z_mem 291 (by decide +kernel) (by decide +kernel), z_mem 292 (by decide +kernel) (by decide +kernel), TX0, 5, rfl⟩
def tb_Co_changeTies : List (Nat × zI) := [(0, (.aload_n 0, (1, [0]))), (1, (.getfield 25, (4, []))), (4, (.istore_n 2, (5, [2]))), (5, (.aload_n 0, (6, [0]))), (6, (.iload_n 1, (7, [1]))), (7, (.putfield 25, (10, []))), (10, (.iload_n 2, (11, [2]))), (11, (.ireturn, (12, [])))]
abbrev m_Co_changeTies : zM := (yX0_changeTies, (cX0_changeTies, (3, (some .int, (0, 0)))))
set_option maxRecDepth 20000 in
theorem tk_Co_changeTies : tb_Co_changeTies.all (z_ent m_Co_changeTies.2.1 m_Co_changeTies.2.2.1) = true := by decide +kernel
theorem yv_Co_changeTies : z_yV m_Co_changeTies 1 0 := ⟨⟨⟨by decide +kernel, by decide +kernel, by decide +kernel⟩, z_mem 52 (by decide +kernel) (by decide +kernel), z_mem 297 (by decide +kernel) (by decide +kernel)⟩, z_mem 295 (by decide +kernel) (by decide +kernel), z_mem 296 (by decide +kernel) (by decide +kernel), TX0, 5, rfl⟩
def tb_Co_seatAll : List (Nat × zI) := [(0, (.aload_n 1, (1, [1]))), (1, (.getfield 9, (4, []))), (4, (.iconst 0, (5, []))), (5, (.aload_n 0, (6, [0]))), (6, (.getfield 9, (9, []))), (9, (.iconst 0, (10, []))), (10, (.bipush 9, (12, []))), (12, (.invokestatic 36, (15, []))), (15, (.aload_n 1, (16, [1]))), (16, (.getfield 15, (19, []))), (19, (.iconst 0, (20, []))), (20, (.aload_n 0, (21, [0]))), (21, (.getfield 15, (24, []))), (24, (.iconst 0, (25, []))), (25, (.bipush 9, (27, []))), (27, (.invokestatic 36, (30, []))), (30, (.aload_n 0, (31, [0]))), (31, (.aload_n 1, (32, [1]))), (32, (.getfield 18, (35, []))), (35, (.putfield 18, (38, []))), (38, (.return_, (39, [])))]
abbrev m_Co_seatAll : zM := (yX0_seatAll, (cX0_seatAll, (2, (none, (1, 60)))))
set_option maxRecDepth 20000 in
theorem tk_Co_seatAll : tb_Co_seatAll.all (z_ent m_Co_seatAll.2.1 m_Co_seatAll.2.2.1) = true := by decide +kernel
theorem yv_Co_seatAll : z_yV m_Co_seatAll 1 0 := ⟨⟨⟨by decide +kernel, by decide +kernel, by decide +kernel⟩, z_mem 52 (by decide +kernel) (by decide +kernel), z_mem 402 (by decide +kernel) (by decide +kernel)⟩, z_mem 400 (by decide +kernel) (by decide +kernel), z_mem 401 (by decide +kernel) (by decide +kernel), TX0, 5, rfl⟩
def tb_Co_copyFrom : List (Nat × zI) := [(0, (.aload_n 0, (1, [0]))), (1, (.aload_n 1, (2, [1]))), (2, (.invokevirtual 42, (5, []))), (5, (.aload_n 0, (6, [0]))), (6, (.aload_n 1, (7, [1]))), (7, (.getfield 22, (10, []))), (10, (.putfield 22, (13, []))), (13, (.aload_n 0, (14, [0]))), (14, (.aload_n 1, (15, [1]))), (15, (.getfield 25, (18, []))), (18, (.putfield 25, (21, []))), (21, (.return_, (22, [])))]
abbrev m_Co_copyFrom : zM := (yX0_copyFrom, (cX0_copyFrom, (2, (none, (2, 81)))))
set_option maxRecDepth 20000 in
theorem tk_Co_copyFrom : tb_Co_copyFrom.all (z_ent m_Co_copyFrom.2.1 m_Co_copyFrom.2.2.1) = true := by decide +kernel
theorem yv_Co_copyFrom : z_yV m_Co_copyFrom 1 0 := ⟨⟨⟨by decide +kernel, by decide +kernel, by decide +kernel⟩, z_mem 52 (by decide +kernel) (by decide +kernel), z_mem 583 (by decide +kernel) (by decide +kernel)⟩, z_mem 581 (by decide +kernel) (by decide +kernel), z_mem 582 (by decide +kernel) (by decide +kernel), TX0, 5, rfl⟩
def tb_Co_writeAlone : List (Nat × zI) := [(0, (.iconst 0, (1, []))), (1, (.istore_n 3, (2, [3]))), (2, (.iconst 0, (3, []))), (3, (.istore 4, (5, [4]))), (5, (.iload 4, (7, [4]))), (7, (.aload_n 0, (8, [0]))), (8, (.getfield 18, (11, []))), (11, (.if_icmp .ge 43, (14, [54]))), (14, (.aload_n 0, (15, [0]))), (15, (.iload 4, (17, [4]))), (17, (.iload_n 1, (18, [1]))), (18, (.iload_n 2, (19, [2]))), (19, (.invokevirtual 46, (22, []))), (22, (.istore 5, (24, [5]))), (24, (.iload 5, (26, [5]))), (26, (.aload_n 0, (27, [0]))), (27, (.getfield 15, (30, []))), (30, (.iload 4, (32, [4]))), (32, (.iaload, (33, []))), (33, (.if_icmp .eq 15, (36, [48]))), (36, (.aload_n 0, (37, [0]))), (37, (.getfield 15, (40, []))), (40, (.iload 4, (42, [4]))), (42, (.iload 5, (44, [5]))), (44, (.iastore, (45, []))), (45, (.iinc 3 1, (48, [3]))), (48, (.iinc 4 1, (51, [4]))), (51, (.goto (-46), (54, [5]))), (54, (.iload_n 3, (55, [3]))), (55, (.ireturn, (56, [])))]
abbrev m_Co_writeAlone : zM := (yX0_writeAlone, (cX0_writeAlone, (6, (some .int, (3, 65)))))
set_option maxRecDepth 20000 in
theorem tk_Co_writeAlone : tb_Co_writeAlone.all (z_ent m_Co_writeAlone.2.1 m_Co_writeAlone.2.2.1) = true := by decide +kernel
theorem yv_Co_writeAlone : z_yV m_Co_writeAlone 2 0 := ⟨⟨⟨by decide +kernel, by decide +kernel, by decide +kernel⟩, z_mem 52 (by decide +kernel) (by decide +kernel), z_mem 275 (by decide +kernel) (by decide +kernel)⟩, z_mem 273 (by decide +kernel) (by decide +kernel), z_mem 274 (by decide +kernel) (by decide +kernel), TX0, 5, rfl⟩
def tb_Co_slipAlone : List (Nat × zI) := [(0, (.aload_n 0, (1, [0]))), (1, (.iload_n 1, (2, [1]))), (2, (.invokevirtual 32, (5, []))), (5, (.tableswitch 33 1 3 #[27, 29, 31], (32, [38, 32, 34, 36]))), (32, (.iload_n 3, (33, [3]))), (33, (.ireturn, (34, []))), (34, (.iconst 0, (35, []))), (35, (.ireturn, (36, []))), (36, (.iload_n 2, (37, [2]))), (37, (.ireturn, (38, []))), (38, (.aload_n 0, (39, [0]))), (39, (.iload_n 1, (40, [1]))), (40, (.invokevirtual 50, (43, []))), (43, (.ireturn, (44, [])))]
abbrev m_Co_slipAlone : zM := (yX0_slipAlone, (cX0_slipAlone, (4, (some .int, (2, 42)))))
set_option maxRecDepth 20000 in
theorem tk_Co_slipAlone : tb_Co_slipAlone.all (z_ent m_Co_slipAlone.2.1 m_Co_slipAlone.2.2.1) = true := by decide +kernel
theorem yv_Co_slipAlone : z_yV m_Co_slipAlone 3 0 := ⟨⟨⟨by decide +kernel, by decide +kernel, by decide +kernel⟩, z_mem 52 (by decide +kernel) (by decide +kernel), z_mem 279 (by decide +kernel) (by decide +kernel)⟩, z_mem 278 (by decide +kernel) (by decide +kernel), z_mem 0 (by decide +kernel) (by decide +kernel), TX0, 5, rfl⟩
def tb_Co_due : List (Nat × zI) := [(0, (.iload_n 2, (1, [2]))), (1, (.aload_n 0, (2, [0]))), (2, (.iload_n 1, (3, [1]))), (3, (.iload_n 2, (4, [2]))), (4, (.aload_n 0, (5, [0]))), (5, (.invokevirtual 53, (8, []))), (8, (.invokevirtual 57, (11, []))), (11, (.imul, (12, []))), (12, (.ireturn, (13, [])))]
abbrev m_Co_due : zM := (yX0_due, (cX0_due, (3, (some .int, (3, 70)))))
set_option maxRecDepth 20000 in
theorem tk_Co_due : tb_Co_due.all (z_ent m_Co_due.2.1 m_Co_due.2.2.1) = true := by decide +kernel
theorem yv_Co_due : z_yV m_Co_due 2 0 := ⟨⟨⟨by decide +kernel, by decide +kernel, by decide +kernel⟩, z_mem 52 (by decide +kernel) (by decide +kernel), z_mem 461 (by decide +kernel) (by decide +kernel)⟩, z_mem 459 (by decide +kernel) (by decide +kernel), z_mem 460 (by decide +kernel) (by decide +kernel), TX0, 5, rfl⟩
def tb_Co_payers : List (Nat × zI) := [(0, (.aload_n 0, (1, [0]))), (1, (.invokevirtual 53, (4, []))), (4, (.istore_n 2, (5, [2]))), (5, (.iconst 0, (6, []))), (6, (.istore_n 3, (7, [3]))), (7, (.iconst 0, (8, []))), (8, (.istore 4, (10, [4]))), (10, (.iload 4, (12, [4]))), (12, (.aload_n 0, (13, [0]))), (13, (.getfield 18, (16, []))), (16, (.if_icmp .ge 27, (19, [43]))), (19, (.aload_n 0, (20, [0]))), (20, (.iload 4, (22, [4]))), (22, (.iload_n 1, (23, [1]))), (23, (.iload_n 2, (24, [2]))), (24, (.invokevirtual 57, (27, []))), (27, (.ifCond .le 10, (30, [37]))), (30, (.iload_n 3, (31, [3]))), (31, (.iconst 1, (32, []))), (32, (.iload 4, (34, [4]))), (34, (.ishl, (35, []))), (35, (.ior, (36, []))), (36, (.istore_n 3, (37, [3]))), (37, (.iinc 4 1, (40, [4]))), (40, (.goto (-30), (43, [10]))), (43, (.iload_n 3, (44, [3]))), (44, (.ireturn, (45, [])))]
abbrev m_Co_payers : zM := (yX0_payers, (cX0_payers, (5, (some .int, (3, 70)))))
set_option maxRecDepth 20000 in
theorem tk_Co_payers : tb_Co_payers.all (z_ent m_Co_payers.2.1 m_Co_payers.2.2.1) = true := by decide +kernel
theorem yv_Co_payers : z_yV m_Co_payers 1 0 := ⟨⟨⟨by decide +kernel, by decide +kernel, by decide +kernel⟩, z_mem 52 (by decide +kernel) (by decide +kernel), z_mem 427 (by decide +kernel) (by decide +kernel)⟩, z_mem 425 (by decide +kernel) (by decide +kernel), z_mem 426 (by decide +kernel) (by decide +kernel), TX0, 5, rfl⟩
def tb_Co_freeGuest : List (Nat × zI) := [(0, (.aload_n 0, (1, [0]))), (1, (.getfield 22, (4, []))), (4, (.iconst 3, (5, []))), (5, (.if_icmp .ne 11, (8, [16]))), (8, (.aload_n 0, (9, [0]))), (9, (.getfield 18, (12, []))), (12, (.iconst 2, (13, []))), (13, (.if_icmp .ge 5, (16, [18]))), (16, (.iconst (-1), (17, []))), (17, (.ireturn, (18, []))), (18, (.aload_n 0, (19, [0]))), (19, (.getfield 18, (22, []))), (22, (.iconst 1, (23, []))), (23, (.isub, (24, []))), (24, (.iconst 2, (25, []))), (25, (.idiv, (26, []))), (26, (.istore_n 1, (27, [1]))), (27, (.iconst 0, (28, []))), (28, (.istore_n 2, (29, [2]))), (29, (.iload_n 2, (30, [2]))), (30, (.aload_n 0, (31, [0]))), (31, (.getfield 18, (34, []))), (34, (.if_icmp .ge 20, (37, [54]))), (37, (.aload_n 0, (38, [0]))), (38, (.iload_n 2, (39, [2]))), (39, (.invokevirtual 60, (42, []))), (42, (.iload_n 1, (43, [1]))), (43, (.if_icmp .ne 5, (46, [48]))), (46, (.iload_n 2, (47, [2]))), (47, (.ireturn, (48, []))), (48, (.iinc 2 1, (51, [2]))), (51, (.goto (-22), (54, [29]))), (54, (.iconst (-1), (55, []))), (55, (.ireturn, (56, [])))]
abbrev m_Co_freeGuest : zM := (yX0_freeGuest, (cX0_freeGuest, (3, (some .int, (1, 24)))))
set_option maxRecDepth 20000 in
theorem tk_Co_freeGuest : tb_Co_freeGuest.all (z_ent m_Co_freeGuest.2.1 m_Co_freeGuest.2.2.1) = true := by decide +kernel
theorem yv_Co_freeGuest : z_yV m_Co_freeGuest 0 0 := ⟨⟨⟨by decide +kernel, by decide +kernel, by decide +kernel⟩, z_mem 52 (by decide +kernel) (by decide +kernel), z_mem 431 (by decide +kernel) (by decide +kernel)⟩, z_mem 429 (by decide +kernel) (by decide +kernel), z_mem 430 (by decide +kernel) (by decide +kernel), TX0, 5, rfl⟩
def tb_Co_placeOf : List (Nat × zI) := [(0, (.aload_n 0, (1, [0]))), (1, (.getfield 15, (4, []))), (4, (.iload_n 1, (5, [1]))), (5, (.iaload, (6, []))), (6, (.istore_n 2, (7, [2]))), (7, (.iconst 0, (8, []))), (8, (.istore_n 3, (9, [3]))), (9, (.iconst 0, (10, []))), (10, (.istore 4, (12, [4]))), (12, (.iload 4, (14, [4]))), (14, (.aload_n 0, (15, [0]))), (15, (.getfield 18, (18, []))), (18, (.if_icmp .ge 40, (21, [58]))), (21, (.aload_n 0, (22, [0]))), (22, (.getfield 15, (25, []))), (25, (.iload 4, (27, [4]))), (27, (.iaload, (28, []))), (28, (.iload_n 2, (29, [2]))), (29, (.if_icmp .lt 20, (32, [49]))), (32, (.aload_n 0, (33, [0]))), (33, (.getfield 15, (36, []))), (36, (.iload 4, (38, [4]))), (38, (.iaload, (39, []))), (39, (.iload_n 2, (40, [2]))), (40, (.if_icmp .ne 12, (43, [52]))), (43, (.iload 4, (45, [4]))), (45, (.iload_n 1, (46, [1]))), (46, (.if_icmp .ge 6, (49, [52]))), (49, (.iinc 3 1, (52, [3]))), (52, (.iinc 4 1, (55, [4]))), (55, (.goto (-43), (58, [12]))), (58, (.iload_n 3, (59, [3]))), (59, (.ireturn, (60, [])))]
abbrev m_Co_placeOf : zM := (yX0_placeOf, (cX0_placeOf, (5, (some .int, (0, 0)))))
set_option maxRecDepth 20000 in
theorem tk_Co_placeOf : tb_Co_placeOf.all (z_ent m_Co_placeOf.2.1 m_Co_placeOf.2.2.1) = true := by decide +kernel
theorem yv_Co_placeOf : z_yV m_Co_placeOf 1 0 := ⟨⟨⟨by decide +kernel, by decide +kernel, by decide +kernel⟩, z_mem 52 (by decide +kernel) (by decide +kernel), z_mem 435 (by decide +kernel) (by decide +kernel)⟩, z_mem 434 (by decide +kernel) (by decide +kernel), z_mem 11 (by decide +kernel) (by decide +kernel), TX0, 5, rfl⟩
def tb_Co_share : List (Nat × zI) := [(0, (.aload_n 0, (1, [0]))), (1, (.iload_n 1, (2, [1]))), (2, (.invokevirtual 28, (5, []))), (5, (.ifCond .eq 8, (8, [13]))), (8, (.iload_n 1, (9, [1]))), (9, (.iload_n 3, (10, [3]))), (10, (.if_icmp .ne 5, (13, [15]))), (13, (.iconst 0, (14, []))), (14, (.ireturn, (15, []))), (15, (.aload_n 0, (16, [0]))), (16, (.getfield 22, (19, []))), (19, (.iconst 2, (20, []))), (20, (.if_icmp .ne 12, (23, [32]))), (23, (.aload_n 0, (24, [0]))), (24, (.iload_n 1, (25, [1]))), (25, (.iload_n 2, (26, [2]))), (26, (.invokevirtual 63, (29, []))), (29, (.goto 10, (32, [39]))), (32, (.aload_n 0, (33, [0]))), (33, (.iload_n 1, (34, [1]))), (34, (.iload_n 2, (35, [2]))), (35, (.iload_n 3, (36, [3]))), (36, (.invokevirtual 67, (39, []))), (39, (.ireturn, (40, [])))]
abbrev m_Co_share : zM := (yX0_share, (cX0_share, (4, (some .int, (2, 47)))))
set_option maxRecDepth 20000 in
theorem tk_Co_share : tb_Co_share.all (z_ent m_Co_share.2.1 m_Co_share.2.2.1) = true := by decide +kernel
theorem yv_Co_share : z_yV m_Co_share 3 0 := ⟨⟨⟨by decide +kernel, by decide +kernel, by decide +kernel⟩, z_mem 52 (by decide +kernel) (by decide +kernel), z_mem 439 (by decide +kernel) (by decide +kernel)⟩, z_mem 437 (by decide +kernel) (by decide +kernel), z_mem 438 (by decide +kernel) (by decide +kernel), TX0, 5, rfl⟩
def tb_Co_shareOfTwo : List (Nat × zI) := [(0, (.aload_n 0, (1, [0]))), (1, (.getfield 15, (4, []))), (4, (.iload_n 1, (5, [1]))), (5, (.iaload, (6, []))), (6, (.iload_n 2, (7, [2]))), (7, (.isub, (8, []))), (8, (.invokestatic 70, (11, []))), (11, (.istore_n 3, (12, [3]))), (12, (.iconst 0, (13, []))), (13, (.istore 4, (15, [4]))), (15, (.iconst 0, (16, []))), (16, (.istore 5, (18, [5]))), (18, (.iload 5, (20, [5]))), (20, (.aload_n 0, (21, [0]))), (21, (.getfield 18, (24, []))), (24, (.if_icmp .ge 78, (27, [102]))), (27, (.aload_n 0, (28, [0]))), (28, (.getfield 15, (31, []))), (31, (.iload 5, (33, [5]))), (33, (.iaload, (34, []))), (34, (.iload_n 2, (35, [2]))), (35, (.isub, (36, []))), (36, (.invokestatic 70, (39, []))), (39, (.istore 6, (41, [6]))), (41, (.aload_n 0, (42, [0]))), (42, (.getfield 25, (45, []))), (45, (.iconst 2, (46, []))), (46, (.if_icmp .ne 17, (49, [63]))), (49, (.iload 5, (51, [5]))), (51, (.iload_n 1, (52, [1]))), (52, (.if_icmp .le 7, (55, [59]))), (55, (.iconst 1, (56, []))), (56, (.goto 18, (59, [74]))), (59, (.iconst 0, (60, []))), (60, (.goto 14, (63, [74]))), (63, (.iload 5, (65, [5]))), (65, (.iload_n 1, (66, [1]))), (66, (.if_icmp .ge 7, (69, [73]))), (69, (.iconst 1, (70, []))), (70, (.goto 4, (73, [74]))), (73, (.iconst 0, (74, []))), (74, (.istore 7, (76, [7]))), (76, (.iload 6, (78, [6]))), (78, (.iload_n 3, (79, [3]))), (79, (.if_icmp .gt 14, (82, [93]))), (82, (.iload 6, (84, [6]))), (84, (.iload_n 3, (85, [3]))), (85, (.if_icmp .ne 11, (88, [96]))), (88, (.iload 7, (90, [7]))), (90, (.ifCond .eq 6, (93, [96]))), (93, (.iinc 4 1, (96, [4]))), (96, (.iinc 5 1, (99, [5]))), (99, (.goto (-81), (102, [18]))), (102, (.iload 4, (104, [4]))), (104, (.iconst 1, (105, []))), (105, (.if_icmp .le 5, (108, [110]))), (108, (.iconst 0, (109, []))), (109, (.ireturn, (110, []))), (110, (.aload_n 0, (111, [0]))), (111, (.getfield 18, (114, []))), (114, (.iconst 1, (115, []))), (115, (.if_icmp .ne 9, (118, [124]))), (118, (.sipush 2520, (121, []))), (121, (.goto 6, (124, [127]))), (124, (.sipush 1260, (127, []))), (127, (.ireturn, (128, [])))]
abbrev m_Co_shareOfTwo : zM := (yX0_shareOfTwo, (cX0_shareOfTwo, (8, (some .int, (1, 20)))))
set_option maxRecDepth 20000 in
theorem tk_Co_shareOfTwo : tb_Co_shareOfTwo.all (z_ent m_Co_shareOfTwo.2.1 m_Co_shareOfTwo.2.2.1) = true := by decide +kernel
theorem yv_Co_shareOfTwo : z_yV m_Co_shareOfTwo 2 0 := ⟨⟨⟨by decide +kernel, by decide +kernel, by decide +kernel⟩, z_mem 52 (by decide +kernel) (by decide +kernel), z_mem 443 (by decide +kernel) (by decide +kernel)⟩, z_mem 442 (by decide +kernel) (by decide +kernel), z_mem 12 (by decide +kernel) (by decide +kernel), TX0, 5, rfl⟩
def tb_Co_shareOfMost : List (Nat × zI) := [(0, (.aload_n 0, (1, [0]))), (1, (.getfield 15, (4, []))), (4, (.iload_n 1, (5, [1]))), (5, (.iaload, (6, []))), (6, (.iload_n 2, (7, [2]))), (7, (.isub, (8, []))), (8, (.invokestatic 70, (11, []))), (11, (.istore 4, (13, [4]))), (13, (.iconst 1, (14, []))), (14, (.istore 5, (16, [5]))), (16, (.iconst 0, (17, []))), (17, (.istore 6, (19, [6]))), (19, (.iload 6, (21, [6]))), (21, (.aload_n 0, (22, [0]))), (22, (.getfield 18, (25, []))), (25, (.if_icmp .ge 104, (28, [129]))), (28, (.iload 6, (30, [6]))), (30, (.iload_n 1, (31, [1]))), (31, (.if_icmp .eq 92, (34, [123]))), (34, (.iload 6, (36, [6]))), (36, (.iload_n 3, (37, [3]))), (37, (.if_icmp .ne 6, (40, [43]))), (40, (.goto 83, (43, [123]))), (43, (.aload_n 0, (44, [0]))), (44, (.getfield 15, (47, []))), (47, (.iload 6, (49, [6]))), (49, (.iaload, (50, []))), (50, (.iload_n 2, (51, [2]))), (51, (.isub, (52, []))), (52, (.invokestatic 70, (55, []))), (55, (.istore 7, (57, [7]))), (57, (.aload_n 0, (58, [0]))), (58, (.getfield 22, (61, []))), (61, (.iconst 1, (62, []))), (62, (.if_icmp .ne 13, (65, [75]))), (65, (.iload 7, (67, [7]))), (67, (.iload 4, (69, [4]))), (69, (.if_icmp .ge 15, (72, [84]))), (72, (.goto 10, (75, [82]))), (75, (.iload 7, (77, [7]))), (77, (.iload 4, (79, [4]))), (79, (.if_icmp .le 5, (82, [84]))), (82, (.iconst 0, (83, []))), (83, (.ireturn, (84, []))), (84, (.iload 7, (86, [7]))), (86, (.iload 4, (88, [4]))), (88, (.if_icmp .ne 35, (91, [123]))), (91, (.aload_n 0, (92, [0]))), (92, (.getfield 25, (95, []))), (95, (.ifCond .ne 9, (98, [104]))), (98, (.iload 6, (100, [6]))), (100, (.iload_n 1, (101, [1]))), (101, (.if_icmp .lt 17, (104, [118]))), (104, (.aload_n 0, (105, [0]))), (105, (.getfield 25, (108, []))), (108, (.iconst 2, (109, []))), (109, (.if_icmp .ne 11, (112, [120]))), (112, (.iload 6, (114, [6]))), (114, (.iload_n 1, (115, [1]))), (115, (.if_icmp .le 5, (118, [120]))), (118, (.iconst 0, (119, []))), (119, (.ireturn, (120, []))), (120, (.iinc 5 1, (123, [5]))), (123, (.iinc 6 1, (126, [6]))), (126, (.goto (-107), (129, [19]))), (129, (.aload_n 0, (130, [0]))), (130, (.getfield 25, (133, []))), (133, (.iconst 1, (134, []))), (134, (.if_icmp .ne 12, (137, [146]))), (137, (.sipush 2520, (140, []))), (140, (.iload 5, (142, [5]))), (142, (.idiv, (143, []))), (143, (.goto 6, (146, [149]))), (146, (.sipush 2520, (149, []))), (149, (.ireturn, (150, [])))]
abbrev m_Co_shareOfMost : zM := (yX0_shareOfMost, (cX0_shareOfMost, (8, (some .int, (1, 20)))))
set_option maxRecDepth 20000 in
theorem tk_Co_shareOfMost : tb_Co_shareOfMost.all (z_ent m_Co_shareOfMost.2.1 m_Co_shareOfMost.2.2.1) = true := by decide +kernel
theorem yv_Co_shareOfMost : z_yV m_Co_shareOfMost 3 0 := ⟨⟨⟨by decide +kernel, by decide +kernel, by decide +kernel⟩, z_mem 52 (by decide +kernel) (by decide +kernel), z_mem 450 (by decide +kernel) (by decide +kernel)⟩, z_mem 449 (by decide +kernel) (by decide +kernel), z_mem 13 (by decide +kernel) (by decide +kernel), TX0, 5, rfl⟩
def tb_Co_isBetween : List (Nat × zI) := [(0, (.aload_n 0, (1, [0]))), (1, (.iload_n 1, (2, [1]))), (2, (.invokevirtual 50, (5, []))), (5, (.istore 4, (7, [4]))), (7, (.aload_n 0, (8, [0]))), (8, (.iload_n 2, (9, [2]))), (9, (.invokevirtual 50, (12, []))), (12, (.istore 5, (14, [5]))), (14, (.aload_n 0, (15, [0]))), (15, (.iload_n 3, (16, [3]))), (16, (.invokevirtual 50, (19, []))), (19, (.istore 6, (21, [6]))), (21, (.iload 5, (23, [5]))), (23, (.iload 4, (25, [4]))), (25, (.if_icmp .ge 10, (28, [35]))), (28, (.iload 4, (30, [4]))), (30, (.iload 6, (32, [6]))), (32, (.if_icmp .lt 17, (35, [49]))), (35, (.iload 6, (37, [6]))), (37, (.iload 4, (39, [4]))), (39, (.if_icmp .ge 14, (42, [53]))), (42, (.iload 4, (44, [4]))), (44, (.iload 5, (46, [5]))), (46, (.if_icmp .ge 7, (49, [53]))), (49, (.iconst 1, (50, []))), (50, (.goto 4, (53, [54]))), (53, (.iconst 0, (54, []))), (54, (.ireturn, (55, [])))]
abbrev m_Co_isBetween : zM := (yX0_isBetween, (cX0_isBetween, (7, (some .boolean, (2, 42)))))
set_option maxRecDepth 20000 in
theorem tk_Co_isBetween : tb_Co_isBetween.all (z_ent m_Co_isBetween.2.1 m_Co_isBetween.2.2.1) = true := by decide +kernel
theorem yv_Co_isBetween : z_yV m_Co_isBetween 3 0 := ⟨⟨⟨by decide +kernel, by decide +kernel, by decide +kernel⟩, z_mem 52 (by decide +kernel) (by decide +kernel), z_mem 620 (by decide +kernel) (by decide +kernel)⟩, z_mem 618 (by decide +kernel) (by decide +kernel), z_mem 619 (by decide +kernel) (by decide +kernel), TX0, 5, rfl⟩
def tb_Su_weightOf : List (Nat × zI) := [(0, (.iload_n 1, (1, [1]))), (1, (.invokestatic 15, (4, []))), (4, (.ifCond .eq 12, (7, [16]))), (7, (.aload_n 0, (8, [0]))), (8, (.getfield 9, (11, []))), (11, (.iload_n 1, (12, [1]))), (12, (.iaload, (13, []))), (13, (.goto 4, (16, [17]))), (16, (.iconst 0, (17, []))), (17, (.ireturn, (18, [])))]
abbrev m_Su_weightOf : zM := (yX3_weightOf, (cX3_weightOf, (2, (some .int, (1, 20)))))
set_option maxRecDepth 20000 in
theorem tk_Su_weightOf : tb_Su_weightOf.all (z_ent m_Su_weightOf.2.1 m_Su_weightOf.2.2.1) = true := by decide +kernel
theorem yv_Su_weightOf : z_yV m_Su_weightOf 1 3 := ⟨⟨⟨by decide +kernel, by decide +kernel, by decide +kernel⟩, z_mem 51 (by decide +kernel) (by decide +kernel), z_mem 212 (by decide +kernel) (by decide +kernel)⟩, z_mem 210 (by decide +kernel) (by decide +kernel), z_mem 211 (by decide +kernel) (by decide +kernel), TX3, 1, rfl⟩
def tb_Su_putWeight : List (Nat × zI) := [(0, (.iload_n 1, (1, [1]))), (1, (.invokestatic 15, (4, []))), (4, (.ifCond .eq 10, (7, [14]))), (7, (.aload_n 0, (8, [0]))), (8, (.getfield 9, (11, []))), (11, (.iload_n 1, (12, [1]))), (12, (.iload_n 2, (13, [2]))), (13, (.iastore, (14, []))), (14, (.return_, (15, [])))]
abbrev m_Su_putWeight : zM := (yX3_putWeight, (cX3_putWeight, (3, (none, (1, 20)))))
set_option maxRecDepth 20000 in
theorem tk_Su_putWeight : tb_Su_putWeight.all (z_ent m_Su_putWeight.2.1 m_Su_putWeight.2.2.1) = true := by decide +kernel
theorem yv_Su_putWeight : z_yV m_Su_putWeight 2 3 := ⟨⟨⟨by decide +kernel, by decide +kernel, by decide +kernel⟩, z_mem 51 (by decide +kernel) (by decide +kernel), z_mem 217 (by decide +kernel) (by decide +kernel)⟩, z_mem 215 (by decide +kernel) (by decide +kernel), z_mem 216 (by decide +kernel) (by decide +kernel), TX3, 1, rfl⟩
def tb_Su_clear : List (Nat × zI) := [(0, (.iconst 0, (1, []))), (1, (.istore_n 1, (2, [1]))), (2, (.iload_n 1, (3, [1]))), (3, (.bipush 21, (5, []))), (5, (.if_icmp .ge 16, (8, [21]))), (8, (.aload_n 0, (9, [0]))), (9, (.getfield 9, (12, []))), (12, (.iload_n 1, (13, [1]))), (13, (.iconst 0, (14, []))), (14, (.iastore, (15, []))), (15, (.iinc 1 1, (18, [1]))), (18, (.goto (-16), (21, [2]))), (21, (.return_, (22, [])))]
abbrev m_Su_clear : zM := (yX3_clear, (cX3_clear, (2, (none, (0, 0)))))
set_option maxRecDepth 20000 in
theorem tk_Su_clear : tb_Su_clear.all (z_ent m_Su_clear.2.1 m_Su_clear.2.2.1) = true := by decide +kernel
theorem yv_Su_clear : z_yV m_Su_clear 0 3 := ⟨⟨⟨by decide +kernel, by decide +kernel, by decide +kernel⟩, z_mem 51 (by decide +kernel) (by decide +kernel), z_mem 327 (by decide +kernel) (by decide +kernel)⟩, z_mem 325 (by decide +kernel) (by decide +kernel), z_mem 326 (by decide +kernel) (by decide +kernel), TX3, 1, rfl⟩
def tb_Su_copyFrom : List (Nat × zI) := [(0, (.aload_n 1, (1, [1]))), (1, (.getfield 9, (4, []))), (4, (.iconst 0, (5, []))), (5, (.aload_n 0, (6, [0]))), (6, (.getfield 9, (9, []))), (9, (.iconst 0, (10, []))), (10, (.bipush 21, (12, []))), (12, (.invokestatic 19, (15, []))), (15, (.return_, (16, [])))]
abbrev m_Su_copyFrom : zM := (yX3_copyFrom, (cX3_copyFrom, (2, (none, (1, 60)))))
set_option maxRecDepth 20000 in
theorem tk_Su_copyFrom : tb_Su_copyFrom.all (z_ent m_Su_copyFrom.2.1 m_Su_copyFrom.2.2.1) = true := by decide +kernel
theorem yv_Su_copyFrom : z_yV m_Su_copyFrom 1 3 := ⟨⟨⟨by decide +kernel, by decide +kernel, by decide +kernel⟩, z_mem 51 (by decide +kernel) (by decide +kernel), z_mem 371 (by decide +kernel) (by decide +kernel)⟩, z_mem 369 (by decide +kernel) (by decide +kernel), z_mem 370 (by decide +kernel) (by decide +kernel), TX3, 1, rfl⟩
def tb_Su_together : List (Nat × zI) := [(0, (.iconst 0, (1, []))), (1, (.istore_n 1, (2, [1]))), (2, (.iconst 0, (3, []))), (3, (.istore_n 2, (4, [2]))), (4, (.iload_n 2, (5, [2]))), (5, (.bipush 21, (7, []))), (7, (.if_icmp .ge 18, (10, [25]))), (10, (.iload_n 1, (11, [1]))), (11, (.aload_n 0, (12, [0]))), (12, (.getfield 9, (15, []))), (15, (.iload_n 2, (16, [2]))), (16, (.iaload, (17, []))), (17, (.iadd, (18, []))), (18, (.istore_n 1, (19, [1]))), (19, (.iinc 2 1, (22, [2]))), (22, (.goto (-18), (25, [4]))), (25, (.iload_n 1, (26, [1]))), (26, (.ireturn, (27, [])))]
abbrev m_Su_together : zM := (yX3_together, (cX3_together, (3, (some .int, (0, 0)))))
set_option maxRecDepth 20000 in
theorem tk_Su_together : tb_Su_together.all (z_ent m_Su_together.2.1 m_Su_together.2.2.1) = true := by decide +kernel
theorem yv_Su_together : z_yV m_Su_together 0 3 := ⟨⟨⟨by decide +kernel, by decide +kernel, by decide +kernel⟩, z_mem 51 (by decide +kernel) (by decide +kernel), z_mem 262 (by decide +kernel) (by decide +kernel)⟩, z_mem 260 (by decide +kernel) (by decide +kernel), z_mem 261 (by decide +kernel) (by decide +kernel), TX3, 1, rfl⟩
def tb_Su_sumsOfWeight : List (Nat × zI) := [(0, (.iconst 0, (1, []))), (1, (.istore_n 1, (2, [1]))), (2, (.iconst 0, (3, []))), (3, (.istore_n 2, (4, [2]))), (4, (.iload_n 2, (5, [2]))), (5, (.bipush 21, (7, []))), (7, (.if_icmp .ge 21, (10, [28]))), (10, (.aload_n 0, (11, [0]))), (11, (.getfield 9, (14, []))), (14, (.iload_n 2, (15, [2]))), (15, (.iaload, (16, []))), (16, (.ifCond .le 6, (19, [22]))), (19, (.iinc 1 1, (22, [1]))), (22, (.iinc 2 1, (25, [2]))), (25, (.goto (-21), (28, [4]))), (28, (.iload_n 1, (29, [1]))), (29, (.ireturn, (30, [])))]
abbrev m_Su_sumsOfWeight : zM := (yX3_sumsOfWeight, (cX3_sumsOfWeight, (3, (some .int, (0, 0)))))
set_option maxRecDepth 20000 in
theorem tk_Su_sumsOfWeight : tb_Su_sumsOfWeight.all (z_ent m_Su_sumsOfWeight.2.1 m_Su_sumsOfWeight.2.2.1) = true := by decide +kernel
theorem yv_Su_sumsOfWeight : z_yV m_Su_sumsOfWeight 0 3 := ⟨⟨⟨by decide +kernel, by decide +kernel, by decide +kernel⟩, z_mem 51 (by decide +kernel) (by decide +kernel), z_mem 415 (by decide +kernel) (by decide +kernel)⟩, z_mem 413 (by decide +kernel) (by decide +kernel), z_mem 414 (by decide +kernel) (by decide +kernel), TX3, 1, rfl⟩
def tb_Su_weighed : List (Nat × zI) := [(0, (.iconst 0, (1, []))), (1, (.istore_n 1, (2, [1]))), (2, (.iconst 0, (3, []))), (3, (.istore_n 2, (4, [2]))), (4, (.iload_n 2, (5, [2]))), (5, (.bipush 21, (7, []))), (7, (.if_icmp .ge 20, (10, [27]))), (10, (.iload_n 1, (11, [1]))), (11, (.iload_n 2, (12, [2]))), (12, (.aload_n 0, (13, [0]))), (13, (.getfield 9, (16, []))), (16, (.iload_n 2, (17, [2]))), (17, (.iaload, (18, []))), (18, (.imul, (19, []))), (19, (.iadd, (20, []))), (20, (.istore_n 1, (21, [1]))), (21, (.iinc 2 1, (24, [2]))), (24, (.goto (-20), (27, [4]))), (27, (.iload_n 1, (28, [1]))), (28, (.ireturn, (29, [])))]
abbrev m_Su_weighed : zM := (yX3_weighed, (cX3_weighed, (3, (some .int, (0, 0)))))
set_option maxRecDepth 20000 in
theorem tk_Su_weighed : tb_Su_weighed.all (z_ent m_Su_weighed.2.1 m_Su_weighed.2.2.1) = true := by decide +kernel
theorem yv_Su_weighed : z_yV m_Su_weighed 0 3 := ⟨⟨⟨by decide +kernel, by decide +kernel, by decide +kernel⟩, z_mem 51 (by decide +kernel) (by decide +kernel), z_mem 271 (by decide +kernel) (by decide +kernel)⟩, z_mem 269 (by decide +kernel) (by decide +kernel), z_mem 270 (by decide +kernel) (by decide +kernel), TX3, 1, rfl⟩
def tb_Su_meanSum : List (Nat × zI) := [(0, (.aload_n 0, (1, [0]))), (1, (.invokevirtual 25, (4, []))), (4, (.istore_n 1, (5, [1]))), (5, (.iload_n 1, (6, [1]))), (6, (.ifCond .ne 7, (9, [13]))), (9, (.iconst 0, (10, []))), (10, (.goto 9, (13, [19]))), (13, (.aload_n 0, (14, [0]))), (14, (.invokevirtual 29, (17, []))), (17, (.iload_n 1, (18, [1]))), (18, (.idiv, (19, []))), (19, (.ireturn, (20, [])))]
abbrev m_Su_meanSum : zM := (yX3_meanSum, (cX3_meanSum, (2, (some .int, (1, 22)))))
set_option maxRecDepth 20000 in
theorem tk_Su_meanSum : tb_Su_meanSum.all (z_ent m_Su_meanSum.2.1 m_Su_meanSum.2.2.1) = true := by decide +kernel
theorem yv_Su_meanSum : z_yV m_Su_meanSum 0 3 := ⟨⟨⟨by decide +kernel, by decide +kernel, by decide +kernel⟩, z_mem 51 (by decide +kernel) (by decide +kernel), z_mem 266 (by decide +kernel) (by decide +kernel)⟩, z_mem 264 (by decide +kernel) (by decide +kernel), z_mem 265 (by decide +kernel) (by decide +kernel), TX3, 1, rfl⟩
def tb_Sh_isMissing : List (Nat × zI) := [(0, (.aload_n 0, (1, [0]))), (1, (.getfield 19, (4, []))), (4, (.iconst (-1), (5, []))), (5, (.if_icmp .ne 7, (8, [12]))), (8, (.iconst 1, (9, []))), (9, (.goto 4, (12, [13]))), (12, (.iconst 0, (13, []))), (13, (.ireturn, (14, [])))]
abbrev m_Sh_isMissing : zM := (yX2_isMissing, (cX2_isMissing, (1, (some .boolean, (0, 0)))))
set_option maxRecDepth 20000 in
theorem tk_Sh_isMissing : tb_Sh_isMissing.all (z_ent m_Sh_isMissing.2.1 m_Sh_isMissing.2.2.1) = true := by decide +kernel
theorem yv_Sh_isMissing : z_yV m_Sh_isMissing 0 2 := ⟨⟨⟨by decide +kernel, by decide +kernel, by decide +kernel⟩, z_mem 55 (by decide +kernel) (by decide +kernel), z_mem 664 (by decide +kernel) (by decide +kernel)⟩, z_mem 662 (by decide +kernel) (by decide +kernel), z_mem 663 (by decide +kernel) (by decide +kernel), TX2, 3, rfl⟩
def tb_Sh_size : List (Nat × zI) := [(0, (.aload_n 0, (1, [0]))), (1, (.getfield 19, (4, []))), (4, (.ireturn, (5, [])))]
abbrev m_Sh_size : zM := (yX2_size, (cX2_size, (1, (some .int, (0, 0)))))
set_option maxRecDepth 20000 in
theorem tk_Sh_size : tb_Sh_size.all (z_ent m_Sh_size.2.1 m_Sh_size.2.2.1) = true := by decide +kernel
theorem yv_Sh_size : z_yV m_Sh_size 0 2 := ⟨⟨⟨by decide +kernel, by decide +kernel, by decide +kernel⟩, z_mem 55 (by decide +kernel) (by decide +kernel), z_mem 693 (by decide +kernel) (by decide +kernel)⟩, z_mem 691 (by decide +kernel) (by decide +kernel), z_mem 692 (by decide +kernel) (by decide +kernel), TX2, 3, rfl⟩
def tb_Sh_begin : List (Nat × zI) := [(0, (.aload_n 0, (1, [0]))), (1, (.iload_n 1, (2, [1]))), (2, (.putfield 15, (5, []))), (5, (.aload_n 0, (6, [0]))), (6, (.iload_n 2, (7, [2]))), (7, (.putfield 19, (10, []))), (10, (.iconst 0, (11, []))), (11, (.istore_n 3, (12, [3]))), (12, (.iload_n 3, (13, [3]))), (13, (.bipush 24, (15, []))), (15, (.if_icmp .ge 16, (18, [31]))), (18, (.aload_n 0, (19, [0]))), (19, (.getfield 9, (22, []))), (22, (.iload_n 3, (23, [3]))), (23, (.lconst 0, (24, [0]))), (24, (.lastore, (25, []))), (25, (.iinc 3 1, (28, [3]))), (28, (.goto (-16), (31, [12]))), (31, (.return_, (32, [])))]
abbrev m_Sh_begin : zM := (yX2_begin, (cX2_begin, (4, (none, (0, 0)))))
set_option maxRecDepth 20000 in
theorem tk_Sh_begin : tb_Sh_begin.all (z_ent m_Sh_begin.2.1 m_Sh_begin.2.2.1) = true := by decide +kernel
theorem yv_Sh_begin : z_yV m_Sh_begin 2 2 := ⟨⟨⟨by decide +kernel, by decide +kernel, by decide +kernel⟩, z_mem 55 (by decide +kernel) (by decide +kernel), z_mem 684 (by decide +kernel) (by decide +kernel)⟩, z_mem 682 (by decide +kernel) (by decide +kernel), z_mem 683 (by decide +kernel) (by decide +kernel), TX2, 3, rfl⟩
def tb_Sh_end : List (Nat × zI) := [(0, (.aload_n 0, (1, [0]))), (1, (.iconst (-1), (2, []))), (2, (.putfield 19, (5, []))), (5, (.return_, (6, [])))]
abbrev m_Sh_end : zM := (yX2_end, (cX2_end, (1, (none, (0, 0)))))
set_option maxRecDepth 20000 in
theorem tk_Sh_end : tb_Sh_end.all (z_ent m_Sh_end.2.1 m_Sh_end.2.2.1) = true := by decide +kernel
theorem yv_Sh_end : z_yV m_Sh_end 0 2 := ⟨⟨⟨by decide +kernel, by decide +kernel, by decide +kernel⟩, z_mem 55 (by decide +kernel) (by decide +kernel), z_mem 697 (by decide +kernel) (by decide +kernel)⟩, z_mem 695 (by decide +kernel) (by decide +kernel), z_mem 696 (by decide +kernel) (by decide +kernel), TX2, 3, rfl⟩
def tb_Sh_refusal : List (Nat × zI) := [(0, (.aload_n 0, (1, [0]))), (1, (.invokevirtual 22, (4, []))), (4, (.ifCond .eq 6, (7, [10]))), (7, (.bipush (-11), (9, []))), (9, (.ireturn, (10, []))), (10, (.iload_n 1, (11, [1]))), (11, (.aload_n 0, (12, [0]))), (12, (.getfield 15, (15, []))), (15, (.if_icmp .eq 6, (18, [21]))), (18, (.bipush (-12), (20, []))), (20, (.ireturn, (21, []))), (21, (.iload_n 2, (22, [2]))), (22, (.ifCond .lt 13, (25, [35]))), (25, (.iload_n 2, (26, [2]))), (26, (.aload_n 0, (27, [0]))), (27, (.getfield 19, (30, []))), (30, (.iload_n 3, (31, [3]))), (31, (.isub, (32, []))), (32, (.if_icmp .le 8, (35, [40]))), (35, (.bipush (-13), (37, []))), (37, (.goto 4, (40, [41]))), (40, (.iconst 0, (41, []))), (41, (.ireturn, (42, [])))]
abbrev m_Sh_refusal : zM := (yX2_refusal, (cX2_refusal, (4, (some .int, (1, 20)))))
set_option maxRecDepth 20000 in
theorem tk_Sh_refusal : tb_Sh_refusal.all (z_ent m_Sh_refusal.2.1 m_Sh_refusal.2.2.1) = true := by decide +kernel
theorem yv_Sh_refusal : z_yV m_Sh_refusal 3 2 := ⟨⟨⟨by decide +kernel, by decide +kernel, by decide +kernel⟩, z_mem 55 (by decide +kernel) (by decide +kernel), z_mem 660 (by decide +kernel) (by decide +kernel)⟩, z_mem 658 (by decide +kernel) (by decide +kernel), z_mem 659 (by decide +kernel) (by decide +kernel), TX2, 3, rfl⟩
def tb_Sh_itemAt : List (Nat × zI) := [(0, (.iload_n 1, (1, [1]))), (1, (.ifCond .lt 20, (4, [21]))), (4, (.iload_n 1, (5, [1]))), (5, (.aload_n 0, (6, [0]))), (6, (.getfield 19, (9, []))), (9, (.if_icmp .ge 12, (12, [21]))), (12, (.aload_n 0, (13, [0]))), (13, (.getfield 9, (16, []))), (16, (.iload_n 1, (17, [1]))), (17, (.laload, (18, []))), (18, (.goto 4, (21, [22]))), (21, (.lconst 0, (22, [0]))), (22, (.lreturn, (23, [])))]
abbrev m_Sh_itemAt : zM := (yX2_itemAt, (cX2_itemAt, (2, (some .long, (0, 0)))))
set_option maxRecDepth 20000 in
theorem tk_Sh_itemAt : tb_Sh_itemAt.all (z_ent m_Sh_itemAt.2.1 m_Sh_itemAt.2.2.1) = true := by decide +kernel
theorem yv_Sh_itemAt : z_yV m_Sh_itemAt 1 2 := ⟨⟨⟨by decide +kernel, by decide +kernel, by decide +kernel⟩, z_mem 55 (by decide +kernel) (by decide +kernel), z_mem 672 (by decide +kernel) (by decide +kernel)⟩, z_mem 670 (by decide +kernel) (by decide +kernel), z_mem 671 (by decide +kernel) (by decide +kernel), TX2, 3, rfl⟩
def tb_Sh_put : List (Nat × zI) := [(0, (.iload_n 1, (1, [1]))), (1, (.ifCond .lt 22, (4, [23]))), (4, (.iload_n 1, (5, [1]))), (5, (.aload_n 0, (6, [0]))), (6, (.getfield 19, (9, []))), (9, (.if_icmp .ge 14, (12, [23]))), (12, (.aload_n 0, (13, [0]))), (13, (.getfield 9, (16, []))), (16, (.iload_n 1, (17, [1]))), (17, (.aload_n 0, (18, [0]))), (18, (.lload_n 2, (19, [2]))), (19, (.invokevirtual 26, (22, []))), (22, (.lastore, (23, []))), (23, (.return_, (24, [])))]
abbrev m_Sh_put : zM := (yX2_put, (cX2_put, (4, (none, (1, 22)))))
set_option maxRecDepth 20000 in
theorem tk_Sh_put : tb_Sh_put.all (z_ent m_Sh_put.2.1 m_Sh_put.2.2.1) = true := by decide +kernel
theorem yv_Sh_put : z_yV m_Sh_put 2 2 := ⟨⟨⟨by decide +kernel, by decide +kernel, by decide +kernel⟩, z_mem 55 (by decide +kernel) (by decide +kernel), z_mem 705 (by decide +kernel) (by decide +kernel)⟩, z_mem 703 (by decide +kernel) (by decide +kernel), z_mem 704 (by decide +kernel) (by decide +kernel), TX2, 3, rfl⟩
def tb_Sh_narrowed : List (Nat × zI) := [(0, (.aload_n 0, (1, [0]))), (1, (.getfield 15, (4, []))), (4, (.ifCond .ne 8, (7, [12]))), (7, (.lload_n 1, (8, [1]))), (8, (.l2i, (9, []))), (9, (.i2s, (10, []))), (10, (.i2l, (11, []))), (11, (.lreturn, (12, []))), (12, (.aload_n 0, (13, [0]))), (13, (.getfield 15, (16, []))), (16, (.iconst 1, (17, []))), (17, (.if_icmp .ne 9, (20, [26]))), (20, (.lload_n 1, (21, [1]))), (21, (.l2i, (22, []))), (22, (.i2l, (23, []))), (23, (.goto 4, (26, [27]))), (26, (.lload_n 1, (27, [1]))), (27, (.lreturn, (28, [])))]
abbrev m_Sh_narrowed : zM := (yX2_narrowed, (cX2_narrowed, (3, (some .long, (0, 0)))))
set_option maxRecDepth 20000 in
theorem tk_Sh_narrowed : tb_Sh_narrowed.all (z_ent m_Sh_narrowed.2.1 m_Sh_narrowed.2.2.1) = true := by decide +kernel
theorem yv_Sh_narrowed : z_yV m_Sh_narrowed 1 2 := ⟨⟨⟨by decide +kernel, by decide +kernel, by decide +kernel⟩, z_mem 55 (by decide +kernel) (by decide +kernel), z_mem 709 (by decide +kernel) (by decide +kernel)⟩, z_mem 708 (by decide +kernel) (by decide +kernel), z_mem 21 (by decide +kernel) (by decide +kernel), TX2, 3, rfl⟩
def tb_Sh_weightsTogether : List (Nat × zI) := [(0, (.lconst 0, (1, [0]))), (1, (.lstore_n 3, (2, [3]))), (2, (.iconst 0, (3, []))), (3, (.istore 5, (5, [5]))), (5, (.iload 5, (7, [5]))), (7, (.iload_n 2, (8, [2]))), (8, (.if_icmp .ge 44, (11, [52]))), (11, (.aload_n 0, (12, [0]))), (12, (.iload_n 1, (13, [1]))), (13, (.iload 5, (15, [5]))), (15, (.iadd, (16, []))), (16, (.invokevirtual 30, (19, []))), (19, (.lstore 6, (21, [6]))), (21, (.lload 6, (23, [6]))), (23, (.lconst 0, (24, [0]))), (24, (.lcmp, (25, []))), (25, (.ifCond .lt 12, (28, [37]))), (28, (.lload 6, (30, [6]))), (30, (.ldc2_w 34, (33, []))), (33, (.lcmp, (34, []))), (34, (.ifCond .le 7, (37, [41]))), (37, (.ldc2_w 36, (40, []))), (40, (.lreturn, (41, []))), (41, (.lload_n 3, (42, [3]))), (42, (.lload 6, (44, [6]))), (44, (.ladd, (45, []))), (45, (.lstore_n 3, (46, [3]))), (46, (.iinc 5 1, (49, [5]))), (49, (.goto (-44), (52, [5]))), (52, (.lload_n 3, (53, [3]))), (53, (.lreturn, (54, [])))]
abbrev m_Sh_weightsTogether : zM := (yX2_weightsTogether, (cX2_weightsTogether, (8, (some .long, (1, 21)))))
set_option maxRecDepth 20000 in
theorem tk_Sh_weightsTogether : tb_Sh_weightsTogether.all (z_ent m_Sh_weightsTogether.2.1 m_Sh_weightsTogether.2.2.1) = true := by decide +kernel
theorem yv_Sh_weightsTogether : z_yV m_Sh_weightsTogether 2 2 := ⟨⟨⟨by decide +kernel, by decide +kernel, by decide +kernel⟩, z_mem 55 (by decide +kernel) (by decide +kernel), z_mem 668 (by decide +kernel) (by decide +kernel)⟩, z_mem 666 (by decide +kernel) (by decide +kernel), z_mem 667 (by decide +kernel) (by decide +kernel), TX2, 3, rfl⟩
def tb_Tp_size : List (Nat × zI) := [(0, (.aload_n 0, (1, [0]))), (1, (.getfield 15, (4, []))), (4, (.ireturn, (5, [])))]
abbrev m_Tp_size : zM := (yX5_size, (cX5_size, (1, (some .int, (0, 0)))))
set_option maxRecDepth 20000 in
theorem tk_Tp_size : tb_Tp_size.all (z_ent m_Tp_size.2.1 m_Tp_size.2.2.1) = true := by decide +kernel
theorem yv_Tp_size : z_yV m_Tp_size 0 5 := ⟨⟨⟨by decide +kernel, by decide +kernel, by decide +kernel⟩, z_mem 54 (by decide +kernel) (by decide +kernel), z_mem 311 (by decide +kernel) (by decide +kernel)⟩, z_mem 309 (by decide +kernel) (by decide +kernel), z_mem 310 (by decide +kernel) (by decide +kernel), TX5, 4, rfl⟩
def tb_Tp_append : List (Nat × zI) := [(0, (.aload_n 0, (1, [0]))), (1, (.getfield 15, (4, []))), (4, (.bipush 80, (6, []))), (6, (.if_icmp .ge 23, (9, [29]))), (9, (.aload_n 0, (10, [0]))), (10, (.getfield 9, (13, []))), (13, (.aload_n 0, (14, [0]))), (14, (.getfield 15, (17, []))), (17, (.iload_n 1, (18, [1]))), (18, (.iastore, (19, []))), (19, (.aload_n 0, (20, [0]))), (20, (.dup, (21, []))), (21, (.getfield 15, (24, []))), (24, (.iconst 1, (25, []))), (25, (.iadd, (26, []))), (26, (.putfield 15, (29, []))), (29, (.return_, (30, [])))]
abbrev m_Tp_append : zM := (yX5_append, (cX5_append, (2, (none, (0, 0)))))
set_option maxRecDepth 20000 in
theorem tk_Tp_append : tb_Tp_append.all (z_ent m_Tp_append.2.1 m_Tp_append.2.2.1) = true := by decide +kernel
theorem yv_Tp_append : z_yV m_Tp_append 1 5 := ⟨⟨⟨by decide +kernel, by decide +kernel, by decide +kernel⟩, z_mem 54 (by decide +kernel) (by decide +kernel), z_mem 315 (by decide +kernel) (by decide +kernel)⟩, z_mem 313 (by decide +kernel) (by decide +kernel), z_mem 314 (by decide +kernel) (by decide +kernel), TX5, 4, rfl⟩
def tb_Tp_takeSupper : List (Nat × zI) := [(0, (.aload_n 1, (1, [1]))), (1, (.invokevirtual 25, (4, []))), (4, (.aload_n 0, (5, [0]))), (5, (.invokevirtual 30, (8, []))), (8, (.iconst 1, (9, []))), (9, (.istore_n 2, (10, [2]))), (10, (.iconst 1, (11, []))), (11, (.istore_n 3, (12, [3]))), (12, (.iload_n 3, (13, [3]))), (13, (.bipush 8, (15, []))), (15, (.if_icmp .gt 36, (18, [51]))), (18, (.iload_n 2, (19, [2]))), (19, (.ifCond .eq 32, (22, [51]))), (22, (.aload_n 0, (23, [0]))), (23, (.aload_n 1, (24, [1]))), (24, (.invokevirtual 33, (27, []))), (27, (.aload_n 0, (28, [0]))), (28, (.bipush 44, (30, []))), (30, (.iload_n 3, (31, [3]))), (31, (.bipush 8, (33, []))), (33, (.if_icmp .ge 7, (36, [40]))), (36, (.iconst 1, (37, []))), (37, (.goto 4, (40, [41]))), (40, (.iconst 0, (41, []))), (41, (.invokevirtual 37, (44, []))), (44, (.istore_n 2, (45, [2]))), (45, (.iinc 3 1, (48, [3]))), (48, (.goto (-36), (51, [12]))), (51, (.aload_n 0, (52, [0]))), (52, (.iconst 0, (53, []))), (53, (.putfield 15, (56, []))), (56, (.aload_n 0, (57, [0]))), (57, (.getfield 22, (60, []))), (60, (.ireturn, (61, [])))]
abbrev m_Tp_takeSupper : zM := (yX5_takeSupper, (cX5_takeSupper, (4, (some .int, (4, 85)))))
set_option maxRecDepth 20000 in
theorem tk_Tp_takeSupper : tb_Tp_takeSupper.all (z_ent m_Tp_takeSupper.2.1 m_Tp_takeSupper.2.2.1) = true := by decide +kernel
theorem yv_Tp_takeSupper : z_yV m_Tp_takeSupper 1 5 := ⟨⟨⟨by decide +kernel, by decide +kernel, by decide +kernel⟩, z_mem 54 (by decide +kernel) (by decide +kernel), z_mem 323 (by decide +kernel) (by decide +kernel)⟩, z_mem 321 (by decide +kernel) (by decide +kernel), z_mem 322 (by decide +kernel) (by decide +kernel), TX5, 4, rfl⟩
def tb_Tp_takeGuests : List (Nat × zI) := [(0, (.aload_n 1, (1, [1]))), (1, (.invokevirtual 41, (4, []))), (4, (.aload_n 0, (5, [0]))), (5, (.invokevirtual 30, (8, []))), (8, (.iconst 1, (9, []))), (9, (.istore_n 2, (10, [2]))), (10, (.iconst 1, (11, []))), (11, (.istore_n 3, (12, [3]))), (12, (.iload_n 3, (13, [3]))), (13, (.bipush 9, (15, []))), (15, (.if_icmp .gt 36, (18, [51]))), (18, (.iload_n 2, (19, [2]))), (19, (.ifCond .eq 32, (22, [51]))), (22, (.aload_n 0, (23, [0]))), (23, (.aload_n 1, (24, [1]))), (24, (.invokevirtual 44, (27, []))), (27, (.aload_n 0, (28, [0]))), (28, (.bipush 59, (30, []))), (30, (.iload_n 3, (31, [3]))), (31, (.bipush 9, (33, []))), (33, (.if_icmp .ge 7, (36, [40]))), (36, (.iconst 1, (37, []))), (37, (.goto 4, (40, [41]))), (40, (.iconst 0, (41, []))), (41, (.invokevirtual 37, (44, []))), (44, (.istore_n 2, (45, [2]))), (45, (.iinc 3 1, (48, [3]))), (48, (.goto (-36), (51, [12]))), (51, (.aload_n 0, (52, [0]))), (52, (.iconst 0, (53, []))), (53, (.putfield 15, (56, []))), (56, (.aload_n 0, (57, [0]))), (57, (.getfield 22, (60, []))), (60, (.ireturn, (61, [])))]
abbrev m_Tp_takeGuests : zM := (yX5_takeGuests, (cX5_takeGuests, (4, (some .int, (4, 84)))))
set_option maxRecDepth 20000 in
theorem tk_Tp_takeGuests : tb_Tp_takeGuests.all (z_ent m_Tp_takeGuests.2.1 m_Tp_takeGuests.2.2.1) = true := by decide +kernel
theorem yv_Tp_takeGuests : z_yV m_Tp_takeGuests 1 5 := ⟨⟨⟨by decide +kernel, by decide +kernel, by decide +kernel⟩, z_mem 54 (by decide +kernel) (by decide +kernel), z_mem 382 (by decide +kernel) (by decide +kernel)⟩, z_mem 380 (by decide +kernel) (by decide +kernel), z_mem 381 (by decide +kernel) (by decide +kernel), TX5, 4, rfl⟩
def tb_Tp_readDish : List (Nat × zI) := [(0, (.aload_n 0, (1, [0]))), (1, (.invokevirtual 48, (4, []))), (4, (.aload_n 0, (5, [0]))), (5, (.getfield 19, (8, []))), (8, (.istore_n 2, (9, [2]))), (9, (.aload_n 0, (10, [0]))), (10, (.iconst 0, (11, []))), (11, (.bipush 20, (13, []))), (13, (.invokevirtual 51, (16, []))), (16, (.istore_n 3, (17, [3]))), (17, (.aload_n 0, (18, [0]))), (18, (.getfield 22, (21, []))), (21, (.ifCond .ne 16, (24, [37]))), (24, (.aload_n 1, (25, [1]))), (25, (.iload_n 3, (26, [3]))), (26, (.invokevirtual 55, (29, []))), (29, (.ifCond .le 8, (32, [37]))), (32, (.aload_n 0, (33, [0]))), (33, (.iload_n 2, (34, [2]))), (34, (.invokevirtual 59, (37, []))), (37, (.aload_n 0, (38, [0]))), (38, (.bipush 120, (40, []))), (40, (.invokevirtual 63, (43, []))), (43, (.aload_n 0, (44, [0]))), (44, (.iconst 1, (45, []))), (45, (.bipush 99, (47, []))), (47, (.invokevirtual 51, (50, []))), (50, (.istore 4, (52, [4]))), (52, (.aload_n 0, (53, [0]))), (53, (.getfield 22, (56, []))), (56, (.ifCond .ne 10, (59, [66]))), (59, (.aload_n 1, (60, [1]))), (60, (.iload_n 3, (61, [3]))), (61, (.iload 4, (63, [4]))), (63, (.invokevirtual 66, (66, []))), (66, (.return_, (67, [])))]
abbrev m_Tp_readDish : zM := (yX5_readDish, (cX5_readDish, (5, (none, (3, 61)))))
set_option maxRecDepth 20000 in
theorem tk_Tp_readDish : tb_Tp_readDish.all (z_ent m_Tp_readDish.2.1 m_Tp_readDish.2.2.1) = true := by decide +kernel
theorem yv_Tp_readDish : z_yV m_Tp_readDish 1 5 := ⟨⟨⟨by decide +kernel, by decide +kernel, by decide +kernel⟩, z_mem 54 (by decide +kernel) (by decide +kernel), z_mem 335 (by decide +kernel) (by decide +kernel)⟩, z_mem 334 (by decide +kernel) (by decide +kernel), z_mem 2 (by decide +kernel) (by decide +kernel), TX5, 4, rfl⟩
def tb_Tp_readGuest : List (Nat × zI) := [(0, (.aload_n 0, (1, [0]))), (1, (.invokevirtual 70, (4, []))), (4, (.istore_n 2, (5, [2]))), (5, (.iconst 0, (6, []))), (6, (.istore_n 3, (7, [3]))), (7, (.aload_n 0, (8, [0]))), (8, (.getfield 22, (11, []))), (11, (.ifCond .ne 26, (14, [37]))), (14, (.iload_n 2, (15, [2]))), (15, (.iconst 2, (16, []))), (16, (.if_icmp .eq 21, (19, [37]))), (19, (.aload_n 0, (20, [0]))), (20, (.invokevirtual 74, (23, []))), (23, (.invokestatic 77, (26, []))), (26, (.ifCond .eq 11, (29, [37]))), (29, (.aload_n 0, (30, [0]))), (30, (.iconst 0, (31, []))), (31, (.bipush 20, (33, []))), (33, (.invokevirtual 51, (36, []))), (36, (.istore_n 3, (37, [3]))), (37, (.aload_n 0, (38, [0]))), (38, (.getfield 22, (41, []))), (41, (.ifCond .ne 9, (44, [50]))), (44, (.aload_n 1, (45, [1]))), (45, (.iload_n 2, (46, [2]))), (46, (.iload_n 3, (47, [3]))), (47, (.invokevirtual 81, (50, []))), (50, (.return_, (51, [])))]
abbrev m_Tp_readGuest : zM := (yX5_readGuest, (cX5_readGuest, (4, (none, (3, 61)))))
set_option maxRecDepth 20000 in
theorem tk_Tp_readGuest : tb_Tp_readGuest.all (z_ent m_Tp_readGuest.2.1 m_Tp_readGuest.2.2.1) = true := by decide +kernel
theorem yv_Tp_readGuest : z_yV m_Tp_readGuest 1 5 := ⟨⟨⟨by decide +kernel, by decide +kernel, by decide +kernel⟩, z_mem 54 (by decide +kernel) (by decide +kernel), z_mem 390 (by decide +kernel) (by decide +kernel)⟩, z_mem 389 (by decide +kernel) (by decide +kernel), z_mem 9 (by decide +kernel) (by decide +kernel), TX5, 4, rfl⟩
def tb_Tp_readKind : List (Nat × zI) := [(0, (.aload_n 0, (1, [0]))), (1, (.invokevirtual 74, (4, []))), (4, (.invokestatic 84, (7, []))), (7, (.istore_n 1, (8, [1]))), (8, (.iload_n 1, (9, [1]))), (9, (.ifCond .ge 14, (12, [23]))), (12, (.aload_n 0, (13, [0]))), (13, (.aload_n 0, (14, [0]))), (14, (.getfield 19, (17, []))), (17, (.invokevirtual 59, (20, []))), (20, (.goto 13, (23, [33]))), (23, (.aload_n 0, (24, [0]))), (24, (.dup, (25, []))), (25, (.getfield 19, (28, []))), (28, (.iconst 1, (29, []))), (29, (.iadd, (30, []))), (30, (.putfield 19, (33, []))), (33, (.iload_n 1, (34, [1]))), (34, (.ireturn, (35, [])))]
abbrev m_Tp_readKind : zM := (yX5_readKind, (cX5_readKind, (2, (some .int, (2, 40)))))
set_option maxRecDepth 20000 in
theorem tk_Tp_readKind : tb_Tp_readKind.all (z_ent m_Tp_readKind.2.1 m_Tp_readKind.2.2.1) = true := by decide +kernel
theorem yv_Tp_readKind : z_yV m_Tp_readKind 0 5 := ⟨⟨⟨by decide +kernel, by decide +kernel, by decide +kernel⟩, z_mem 54 (by decide +kernel) (by decide +kernel), z_mem 394 (by decide +kernel) (by decide +kernel)⟩, z_mem 393 (by decide +kernel) (by decide +kernel), z_mem 10 (by decide +kernel) (by decide +kernel), TX5, 4, rfl⟩
def tb_Tp_kindBy : List (Nat × zI) := [(0, (.iload_n 0, (1, [0]))), (1, (.lookupswitch 51 #[(102, 45), (107, 49), (110, 47), (115, 43)], (44, [52, 46, 50, 48, 44]))), (44, (.iconst 0, (45, []))), (45, (.ireturn, (46, []))), (46, (.iconst 1, (47, []))), (47, (.ireturn, (48, []))), (48, (.iconst 2, (49, []))), (49, (.ireturn, (50, []))), (50, (.iconst 3, (51, []))), (51, (.ireturn, (52, []))), (52, (.iconst (-1), (53, []))), (53, (.ireturn, (54, [])))]
abbrev m_Tp_kindBy : zM := (yX5_kindBy, (cX5_kindBy, (1, (some .int, (0, 0)))))
set_option maxRecDepth 20000 in
theorem tk_Tp_kindBy : tb_Tp_kindBy.all (z_ent m_Tp_kindBy.2.1 m_Tp_kindBy.2.2.1) = true := by decide +kernel
theorem ys_Tp_kindBy : z_yS m_Tp_kindBy 1 := ⟨⟨⟨by decide +kernel, by decide +kernel, by decide +kernel⟩, z_mem 54 (by decide +kernel) (by decide +kernel), z_mem 397 (by decide +kernel) (by decide +kernel)⟩, z_mem 396 (by decide +kernel) (by decide +kernel)⟩
def tb_Tp_begin : List (Nat × zI) := [(0, (.aload_n 0, (1, [0]))), (1, (.iconst 0, (2, []))), (2, (.putfield 19, (5, []))), (5, (.aload_n 0, (6, [0]))), (6, (.iconst 0, (7, []))), (7, (.putfield 22, (10, []))), (10, (.return_, (11, [])))]
abbrev m_Tp_begin : zM := (yX5_begin, (cX5_begin, (1, (none, (0, 0)))))
set_option maxRecDepth 20000 in
theorem tk_Tp_begin : tb_Tp_begin.all (z_ent m_Tp_begin.2.1 m_Tp_begin.2.2.1) = true := by decide +kernel
theorem yv_Tp_begin : z_yV m_Tp_begin 0 5 := ⟨⟨⟨by decide +kernel, by decide +kernel, by decide +kernel⟩, z_mem 54 (by decide +kernel) (by decide +kernel), z_mem 331 (by decide +kernel) (by decide +kernel)⟩, z_mem 330 (by decide +kernel) (by decide +kernel), z_mem 1 (by decide +kernel) (by decide +kernel), TX5, 4, rfl⟩
def tb_Tp_faultAt : List (Nat × zI) := [(0, (.aload_n 0, (1, [0]))), (1, (.getfield 22, (4, []))), (4, (.ifCond .ne 11, (7, [15]))), (7, (.aload_n 0, (8, [0]))), (8, (.bipush (-20), (10, []))), (10, (.iload_n 1, (11, [1]))), (11, (.isub, (12, []))), (12, (.putfield 22, (15, []))), (15, (.return_, (16, [])))]
abbrev m_Tp_faultAt : zM := (yX5_faultAt, (cX5_faultAt, (2, (none, (0, 0)))))
set_option maxRecDepth 20000 in
theorem tk_Tp_faultAt : tb_Tp_faultAt.all (z_ent m_Tp_faultAt.2.1 m_Tp_faultAt.2.2.1) = true := by decide +kernel
theorem yv_Tp_faultAt : z_yV m_Tp_faultAt 1 5 := ⟨⟨⟨by decide +kernel, by decide +kernel, by decide +kernel⟩, z_mem 54 (by decide +kernel) (by decide +kernel), z_mem 353 (by decide +kernel) (by decide +kernel)⟩, z_mem 352 (by decide +kernel) (by decide +kernel), z_mem 5 (by decide +kernel) (by decide +kernel), TX5, 4, rfl⟩
def tb_Tp_skipBlanks : List (Nat × zI) := [(0, (.aload_n 0, (1, [0]))), (1, (.getfield 19, (4, []))), (4, (.aload_n 0, (5, [0]))), (5, (.getfield 15, (8, []))), (8, (.if_icmp .ge 30, (11, [38]))), (11, (.aload_n 0, (12, [0]))), (12, (.getfield 9, (15, []))), (15, (.aload_n 0, (16, [0]))), (16, (.getfield 19, (19, []))), (19, (.iaload, (20, []))), (20, (.bipush 32, (22, []))), (22, (.if_icmp .ne 16, (25, [38]))), (25, (.aload_n 0, (26, [0]))), (26, (.dup, (27, []))), (27, (.getfield 19, (30, []))), (30, (.iconst 1, (31, []))), (31, (.iadd, (32, []))), (32, (.putfield 19, (35, []))), (35, (.goto (-35), (38, [0]))), (38, (.return_, (39, [])))]
abbrev m_Tp_skipBlanks : zM := (yX5_skipBlanks, (cX5_skipBlanks, (1, (none, (0, 0)))))
set_option maxRecDepth 20000 in
theorem tk_Tp_skipBlanks : tb_Tp_skipBlanks.all (z_ent m_Tp_skipBlanks.2.1 m_Tp_skipBlanks.2.2.1) = true := by decide +kernel
theorem yv_Tp_skipBlanks : z_yV m_Tp_skipBlanks 0 5 := ⟨⟨⟨by decide +kernel, by decide +kernel, by decide +kernel⟩, z_mem 54 (by decide +kernel) (by decide +kernel), z_mem 339 (by decide +kernel) (by decide +kernel)⟩, z_mem 338 (by decide +kernel) (by decide +kernel), z_mem 3 (by decide +kernel) (by decide +kernel), TX5, 4, rfl⟩
def tb_Tp_next : List (Nat × zI) := [(0, (.aload_n 0, (1, [0]))), (1, (.invokevirtual 48, (4, []))), (4, (.aload_n 0, (5, [0]))), (5, (.getfield 19, (8, []))), (8, (.aload_n 0, (9, [0]))), (9, (.getfield 15, (12, []))), (12, (.if_icmp .ge 15, (15, [27]))), (15, (.aload_n 0, (16, [0]))), (16, (.getfield 9, (19, []))), (19, (.aload_n 0, (20, [0]))), (20, (.getfield 19, (23, []))), (23, (.iaload, (24, []))), (24, (.goto 4, (27, [28]))), (27, (.iconst (-1), (28, []))), (28, (.ireturn, (29, [])))]
abbrev m_Tp_next : zM := (yX5_next, (cX5_next, (1, (some .int, (1, 20)))))
set_option maxRecDepth 20000 in
theorem tk_Tp_next : tb_Tp_next.all (z_ent m_Tp_next.2.1 m_Tp_next.2.2.1) = true := by decide +kernel
theorem yv_Tp_next : z_yV m_Tp_next 0 5 := ⟨⟨⟨by decide +kernel, by decide +kernel, by decide +kernel⟩, z_mem 54 (by decide +kernel) (by decide +kernel), z_mem 362 (by decide +kernel) (by decide +kernel)⟩, z_mem 361 (by decide +kernel) (by decide +kernel), z_mem 7 (by decide +kernel) (by decide +kernel), TX5, 4, rfl⟩
def tb_Tp_isFigure : List (Nat × zI) := [(0, (.iload_n 0, (1, [0]))), (1, (.bipush 48, (3, []))), (3, (.if_icmp .lt 13, (6, [16]))), (6, (.iload_n 0, (7, [0]))), (7, (.bipush 57, (9, []))), (9, (.if_icmp .gt 7, (12, [16]))), (12, (.iconst 1, (13, []))), (13, (.goto 4, (16, [17]))), (16, (.iconst 0, (17, []))), (17, (.ireturn, (18, [])))]
abbrev m_Tp_isFigure : zM := (yX5_isFigure, (cX5_isFigure, (1, (some .boolean, (0, 0)))))
set_option maxRecDepth 20000 in
theorem tk_Tp_isFigure : tb_Tp_isFigure.all (z_ent m_Tp_isFigure.2.1 m_Tp_isFigure.2.2.1) = true := by decide +kernel
theorem ys_Tp_isFigure : z_yS m_Tp_isFigure 1 := ⟨⟨⟨by decide +kernel, by decide +kernel, by decide +kernel⟩, z_mem 54 (by decide +kernel) (by decide +kernel), z_mem 346 (by decide +kernel) (by decide +kernel)⟩, z_mem 345 (by decide +kernel) (by decide +kernel)⟩
def tb_Tp_readSign : List (Nat × zI) := [(0, (.aload_n 0, (1, [0]))), (1, (.invokevirtual 74, (4, []))), (4, (.iload_n 1, (5, [1]))), (5, (.if_icmp .ne 16, (8, [21]))), (8, (.aload_n 0, (9, [0]))), (9, (.dup, (10, []))), (10, (.getfield 19, (13, []))), (13, (.iconst 1, (14, []))), (14, (.iadd, (15, []))), (15, (.putfield 19, (18, []))), (18, (.goto 11, (21, [29]))), (21, (.aload_n 0, (22, [0]))), (22, (.aload_n 0, (23, [0]))), (23, (.getfield 19, (26, []))), (26, (.invokevirtual 59, (29, []))), (29, (.return_, (30, [])))]
abbrev m_Tp_readSign : zM := (yX5_readSign, (cX5_readSign, (2, (none, (2, 40)))))
set_option maxRecDepth 20000 in
theorem tk_Tp_readSign : tb_Tp_readSign.all (z_ent m_Tp_readSign.2.1 m_Tp_readSign.2.2.1) = true := by decide +kernel
theorem yv_Tp_readSign : z_yV m_Tp_readSign 1 5 := ⟨⟨⟨by decide +kernel, by decide +kernel, by decide +kernel⟩, z_mem 54 (by decide +kernel) (by decide +kernel), z_mem 358 (by decide +kernel) (by decide +kernel)⟩, z_mem 357 (by decide +kernel) (by decide +kernel), z_mem 6 (by decide +kernel) (by decide +kernel), TX5, 4, rfl⟩
def tb_Tp_readNumber : List (Nat × zI) := [(0, (.aload_n 0, (1, [0]))), (1, (.invokevirtual 48, (4, []))), (4, (.aload_n 0, (5, [0]))), (5, (.getfield 19, (8, []))), (8, (.istore_n 3, (9, [3]))), (9, (.iconst 0, (10, []))), (10, (.istore 4, (12, [4]))), (12, (.aload_n 0, (13, [0]))), (13, (.getfield 19, (16, []))), (16, (.aload_n 0, (17, [0]))), (17, (.getfield 15, (20, []))), (20, (.if_icmp .ge 57, (23, [77]))), (23, (.aload_n 0, (24, [0]))), (24, (.getfield 9, (27, []))), (27, (.aload_n 0, (28, [0]))), (28, (.getfield 19, (31, []))), (31, (.iaload, (32, []))), (32, (.invokestatic 77, (35, []))), (35, (.ifCond .eq 42, (38, [77]))), (38, (.bipush 10, (40, []))), (40, (.iload 4, (42, [4]))), (42, (.imul, (43, []))), (43, (.aload_n 0, (44, [0]))), (44, (.getfield 9, (47, []))), (47, (.aload_n 0, (48, [0]))), (48, (.getfield 19, (51, []))), (51, (.iaload, (52, []))), (52, (.iadd, (53, []))), (53, (.bipush 48, (55, []))), (55, (.isub, (56, []))), (56, (.sipush 1000, (59, []))), (59, (.invokestatic 87, (62, []))), (62, (.istore 4, (64, [4]))), (64, (.aload_n 0, (65, [0]))), (65, (.dup, (66, []))), (66, (.getfield 19, (69, []))), (69, (.iconst 1, (70, []))), (70, (.iadd, (71, []))), (71, (.putfield 19, (74, []))), (74, (.goto (-62), (77, [12]))), (77, (.aload_n 0, (78, [0]))), (78, (.getfield 19, (81, []))), (81, (.iload_n 3, (82, [3]))), (82, (.if_icmp .eq 15, (85, [97]))), (85, (.iload 4, (87, [4]))), (87, (.iload_n 1, (88, [1]))), (88, (.if_icmp .lt 9, (91, [97]))), (91, (.iload 4, (93, [4]))), (93, (.iload_n 2, (94, [2]))), (94, (.if_icmp .le 8, (97, [102]))), (97, (.aload_n 0, (98, [0]))), (98, (.iload_n 3, (99, [3]))), (99, (.invokevirtual 59, (102, []))), (102, (.iload 4, (104, [4]))), (104, (.ireturn, (105, [])))]
abbrev m_Tp_readNumber : zM := (yX5_readNumber, (cX5_readNumber, (5, (some .int, (1, 21)))))
set_option maxRecDepth 20000 in
theorem tk_Tp_readNumber : tb_Tp_readNumber.all (z_ent m_Tp_readNumber.2.1 m_Tp_readNumber.2.2.1) = true := by decide +kernel
theorem yv_Tp_readNumber : z_yV m_Tp_readNumber 2 5 := ⟨⟨⟨by decide +kernel, by decide +kernel, by decide +kernel⟩, z_mem 54 (by decide +kernel) (by decide +kernel), z_mem 343 (by decide +kernel) (by decide +kernel)⟩, z_mem 342 (by decide +kernel) (by decide +kernel), z_mem 4 (by decide +kernel) (by decide +kernel), TX5, 4, rfl⟩
def tb_Tp_goesOn : List (Nat × zI) := [(0, (.aload_n 0, (1, [0]))), (1, (.getfield 22, (4, []))), (4, (.ifCond .ne 11, (7, [15]))), (7, (.aload_n 0, (8, [0]))), (8, (.invokevirtual 74, (11, []))), (11, (.iconst (-1), (12, []))), (12, (.if_icmp .ne 5, (15, [17]))), (15, (.iconst 0, (16, []))), (16, (.ireturn, (17, []))), (17, (.aload_n 0, (18, [0]))), (18, (.invokevirtual 74, (21, []))), (21, (.iload_n 1, (22, [1]))), (22, (.if_icmp .ne 7, (25, [29]))), (25, (.iload_n 2, (26, [2]))), (26, (.ifCond .ne 13, (29, [39]))), (29, (.aload_n 0, (30, [0]))), (30, (.aload_n 0, (31, [0]))), (31, (.getfield 19, (34, []))), (34, (.invokevirtual 59, (37, []))), (37, (.iconst 0, (38, []))), (38, (.ireturn, (39, []))), (39, (.aload_n 0, (40, [0]))), (40, (.dup, (41, []))), (41, (.getfield 19, (44, []))), (44, (.iconst 1, (45, []))), (45, (.iadd, (46, []))), (46, (.putfield 19, (49, []))), (49, (.iconst 1, (50, []))), (50, (.ireturn, (51, [])))]
abbrev m_Tp_goesOn : zM := (yX5_goesOn, (cX5_goesOn, (3, (some .boolean, (2, 40)))))
set_option maxRecDepth 20000 in
theorem tk_Tp_goesOn : tb_Tp_goesOn.all (z_ent m_Tp_goesOn.2.1 m_Tp_goesOn.2.2.1) = true := by decide +kernel
theorem yv_Tp_goesOn : z_yV m_Tp_goesOn 2 5 := ⟨⟨⟨by decide +kernel, by decide +kernel, by decide +kernel⟩, z_mem 54 (by decide +kernel) (by decide +kernel), z_mem 367 (by decide +kernel) (by decide +kernel)⟩, z_mem 366 (by decide +kernel) (by decide +kernel), z_mem 8 (by decide +kernel) (by decide +kernel), TX5, 4, rfl⟩
end
section
/-! TABLES: the larger classes of the system -/
def tb_Ni_size : List (Nat × zI) := [(0, (.aload_n 0, (1, [0]))), (1, (.getfield 21, (4, []))), (4, (.ireturn, (5, [])))]
abbrev m_Ni_size : zM := (yX1_size, (cX1_size, (1, (some .int, (0, 0)))))
set_option maxRecDepth 20000 in
theorem tk_Ni_size : tb_Ni_size.all (z_ent m_Ni_size.2.1 m_Ni_size.2.2.1) = true := by decide +kernel
theorem yv_Ni_size : z_yV m_Ni_size 0 1 := ⟨⟨⟨by decide +kernel, by decide +kernel, by decide +kernel⟩, z_mem 53 (by decide +kernel) (by decide +kernel), z_mem 419 (by decide +kernel) (by decide +kernel)⟩, z_mem 417 (by decide +kernel) (by decide +kernel), z_mem 418 (by decide +kernel) (by decide +kernel), TX1, 3, rfl⟩
def tb_Ni_clear : List (Nat × zI) := [(0, (.aload_n 0, (1, [0]))), (1, (.iconst 0, (2, []))), (2, (.putfield 21, (5, []))), (5, (.return_, (6, [])))]
abbrev m_Ni_clear : zM := (yX1_clear, (cX1_clear, (1, (none, (0, 0)))))
set_option maxRecDepth 20000 in
theorem tk_Ni_clear : tb_Ni_clear.all (z_ent m_Ni_clear.2.1 m_Ni_clear.2.2.1) = true := by decide +kernel
theorem yv_Ni_clear : z_yV m_Ni_clear 0 1 := ⟨⟨⟨by decide +kernel, by decide +kernel, by decide +kernel⟩, z_mem 53 (by decide +kernel) (by decide +kernel), z_mem 407 (by decide +kernel) (by decide +kernel)⟩, z_mem 405 (by decide +kernel) (by decide +kernel), z_mem 406 (by decide +kernel) (by decide +kernel), TX1, 3, rfl⟩
def tb_Ni_append : List (Nat × zI) := [(0, (.aload_n 0, (1, [0]))), (1, (.getfield 21, (4, []))), (4, (.bipush 12, (6, []))), (6, (.if_icmp .ge 36, (9, [42]))), (9, (.aload_n 0, (10, [0]))), (10, (.getfield 9, (13, []))), (13, (.aload_n 0, (14, [0]))), (14, (.getfield 21, (17, []))), (17, (.iload_n 1, (18, [1]))), (18, (.iastore, (19, []))), (19, (.aload_n 0, (20, [0]))), (20, (.getfield 17, (23, []))), (23, (.aload_n 0, (24, [0]))), (24, (.getfield 21, (27, []))), (27, (.aaload, (28, []))), (28, (.aload_n 2, (29, [2]))), (29, (.invokevirtual 26, (32, []))), (32, (.aload_n 0, (33, [0]))), (33, (.dup, (34, []))), (34, (.getfield 21, (37, []))), (37, (.iconst 1, (38, []))), (38, (.iadd, (39, []))), (39, (.putfield 21, (42, []))), (42, (.return_, (43, [])))]
abbrev m_Ni_append : zM := (yX1_append, (cX1_append, (3, (none, (3, 102)))))
set_option maxRecDepth 20000 in
theorem tk_Ni_append : tb_Ni_append.all (z_ent m_Ni_append.2.1 m_Ni_append.2.2.1) = true := by decide +kernel
theorem yv_Ni_append : z_yV m_Ni_append 2 1 := ⟨⟨⟨by decide +kernel, by decide +kernel, by decide +kernel⟩, z_mem 53 (by decide +kernel) (by decide +kernel), z_mem 579 (by decide +kernel) (by decide +kernel)⟩, z_mem 577 (by decide +kernel) (by decide +kernel), z_mem 578 (by decide +kernel) (by decide +kernel), TX1, 3, rfl⟩
def tb_Ni_copyFrom : List (Nat × zI) := [(0, (.aload_n 0, (1, [0]))), (1, (.aload_n 1, (2, [1]))), (2, (.getfield 21, (5, []))), (5, (.putfield 21, (8, []))), (8, (.iconst 0, (9, []))), (9, (.istore_n 2, (10, [2]))), (10, (.iload_n 2, (11, [2]))), (11, (.aload_n 0, (12, [0]))), (12, (.getfield 21, (15, []))), (15, (.if_icmp .ge 36, (18, [51]))), (18, (.aload_n 0, (19, [0]))), (19, (.getfield 9, (22, []))), (22, (.iload_n 2, (23, [2]))), (23, (.aload_n 1, (24, [1]))), (24, (.getfield 9, (27, []))), (27, (.iload_n 2, (28, [2]))), (28, (.iaload, (29, []))), (29, (.iastore, (30, []))), (30, (.aload_n 0, (31, [0]))), (31, (.getfield 17, (34, []))), (34, (.iload_n 2, (35, [2]))), (35, (.aaload, (36, []))), (36, (.aload_n 1, (37, [1]))), (37, (.getfield 17, (40, []))), (40, (.iload_n 2, (41, [2]))), (41, (.aaload, (42, []))), (42, (.invokevirtual 26, (45, []))), (45, (.iinc 2 1, (48, [2]))), (48, (.goto (-38), (51, [10]))), (51, (.return_, (52, [])))]
abbrev m_Ni_copyFrom : zM := (yX1_copyFrom, (cX1_copyFrom, (3, (none, (3, 102)))))
set_option maxRecDepth 20000 in
theorem tk_Ni_copyFrom : tb_Ni_copyFrom.all (z_ent m_Ni_copyFrom.2.1 m_Ni_copyFrom.2.2.1) = true := by decide +kernel
theorem yv_Ni_copyFrom : z_yV m_Ni_copyFrom 1 1 := ⟨⟨⟨by decide +kernel, by decide +kernel, by decide +kernel⟩, z_mem 53 (by decide +kernel) (by decide +kernel), z_mem 642 (by decide +kernel) (by decide +kernel)⟩, z_mem 640 (by decide +kernel) (by decide +kernel), z_mem 641 (by decide +kernel) (by decide +kernel), TX1, 3, rfl⟩
def tb_Ni_knowers : List (Nat × zI) := [(0, (.iconst 0, (1, []))), (1, (.istore_n 1, (2, [1]))), (2, (.iconst 0, (3, []))), (3, (.istore_n 2, (4, [2]))), (4, (.iload_n 2, (5, [2]))), (5, (.bipush 9, (7, []))), (7, (.if_icmp .ge 23, (10, [30]))), (10, (.aload_n 0, (11, [0]))), (11, (.iload_n 2, (12, [2]))), (12, (.invokevirtual 30, (15, []))), (15, (.ifCond .eq 9, (18, [24]))), (18, (.iload_n 1, (19, [1]))), (19, (.iconst 1, (20, []))), (20, (.iload_n 2, (21, [2]))), (21, (.ishl, (22, []))), (22, (.ior, (23, []))), (23, (.istore_n 1, (24, [1]))), (24, (.iinc 2 1, (27, [2]))), (27, (.goto (-23), (30, [4]))), (30, (.iload_n 1, (31, [1]))), (31, (.ireturn, (32, [])))]
abbrev m_Ni_knowers : zM := (yX1_knowers, (cX1_knowers, (3, (some .int, (3, 64)))))
set_option maxRecDepth 20000 in
theorem tk_Ni_knowers : tb_Ni_knowers.all (z_ent m_Ni_knowers.2.1 m_Ni_knowers.2.2.1) = true := by decide +kernel
theorem yv_Ni_knowers : z_yV m_Ni_knowers 0 1 := ⟨⟨⟨by decide +kernel, by decide +kernel, by decide +kernel⟩, z_mem 53 (by decide +kernel) (by decide +kernel), z_mem 592 (by decide +kernel) (by decide +kernel)⟩, z_mem 590 (by decide +kernel) (by decide +kernel), z_mem 591 (by decide +kernel) (by decide +kernel), TX1, 3, rfl⟩
def tb_Ni_alwaysKnew : List (Nat × zI) := [(0, (.iconst 0, (1, []))), (1, (.istore_n 2, (2, [2]))), (2, (.iload_n 2, (3, [2]))), (3, (.aload_n 0, (4, [0]))), (4, (.getfield 21, (7, []))), (7, (.if_icmp .ge 43, (10, [50]))), (10, (.aload_n 0, (11, [0]))), (11, (.getfield 17, (14, []))), (14, (.iload_n 2, (15, [2]))), (15, (.aaload, (16, []))), (16, (.iload_n 1, (17, [1]))), (17, (.invokevirtual 34, (20, []))), (20, (.ifCond .eq 22, (23, [42]))), (23, (.aload_n 0, (24, [0]))), (24, (.getfield 17, (27, []))), (27, (.iload_n 2, (28, [2]))), (28, (.aaload, (29, []))), (29, (.iload_n 1, (30, [1]))), (30, (.invokevirtual 37, (33, []))), (33, (.aload_n 0, (34, [0]))), (34, (.getfield 9, (37, []))), (37, (.iload_n 2, (38, [2]))), (38, (.iaload, (39, []))), (39, (.if_icmp .eq 5, (42, [44]))), (42, (.iconst 0, (43, []))), (43, (.ireturn, (44, []))), (44, (.iinc 2 1, (47, [2]))), (47, (.goto (-45), (50, [2]))), (50, (.aload_n 0, (51, [0]))), (51, (.getfield 21, (54, []))), (54, (.ifCond .le 7, (57, [61]))), (57, (.iconst 1, (58, []))), (58, (.goto 4, (61, [62]))), (61, (.iconst 0, (62, []))), (62, (.ireturn, (63, [])))]
abbrev m_Ni_alwaysKnew : zM := (yX1_alwaysKnew, (cX1_alwaysKnew, (3, (some .boolean, (2, 42)))))
set_option maxRecDepth 20000 in
theorem tk_Ni_alwaysKnew : tb_Ni_alwaysKnew.all (z_ent m_Ni_alwaysKnew.2.1 m_Ni_alwaysKnew.2.2.1) = true := by decide +kernel
theorem yv_Ni_alwaysKnew : z_yV m_Ni_alwaysKnew 1 1 := ⟨⟨⟨by decide +kernel, by decide +kernel, by decide +kernel⟩, z_mem 53 (by decide +kernel) (by decide +kernel), z_mem 596 (by decide +kernel) (by decide +kernel)⟩, z_mem 595 (by decide +kernel) (by decide +kernel), z_mem 18 (by decide +kernel) (by decide +kernel), TX1, 3, rfl⟩
def tb_Ni_pairsAgainst : List (Nat × zI) := [(0, (.iconst 0, (1, []))), (1, (.istore_n 2, (2, [2]))), (2, (.aload_n 0, (3, [0]))), (3, (.iload_n 1, (4, [1]))), (4, (.invokevirtual 41, (7, []))), (7, (.ifCond .eq 49, (10, [56]))), (10, (.iconst 0, (11, []))), (11, (.istore_n 3, (12, [3]))), (12, (.iload_n 3, (13, [3]))), (13, (.bipush 9, (15, []))), (15, (.if_icmp .ge 41, (18, [56]))), (18, (.iload_n 3, (19, [3]))), (19, (.iconst 1, (20, []))), (20, (.iadd, (21, []))), (21, (.istore 4, (23, [4]))), (23, (.iload 4, (25, [4]))), (25, (.bipush 9, (27, []))), (27, (.if_icmp .ge 23, (30, [50]))), (30, (.aload_n 0, (31, [0]))), (31, (.iload_n 1, (32, [1]))), (32, (.iload_n 3, (33, [3]))), (33, (.iload 4, (35, [4]))), (35, (.invokevirtual 44, (38, []))), (38, (.ifCond .eq 6, (41, [44]))), (41, (.iinc 2 1, (44, [2]))), (44, (.iinc 4 1, (47, [4]))), (47, (.goto (-24), (50, [23]))), (50, (.iinc 3 1, (53, [3]))), (53, (.goto (-41), (56, [12]))), (56, (.iload_n 2, (57, [2]))), (57, (.ireturn, (58, [])))]
abbrev m_Ni_pairsAgainst : zM := (yX1_pairsAgainst, (cX1_pairsAgainst, (5, (some .int, (4, 93)))))
set_option maxRecDepth 20000 in
theorem tk_Ni_pairsAgainst : tb_Ni_pairsAgainst.all (z_ent m_Ni_pairsAgainst.2.1 m_Ni_pairsAgainst.2.2.1) = true := by decide +kernel
theorem yv_Ni_pairsAgainst : z_yV m_Ni_pairsAgainst 1 1 := ⟨⟨⟨by decide +kernel, by decide +kernel, by decide +kernel⟩, z_mem 53 (by decide +kernel) (by decide +kernel), z_mem 606 (by decide +kernel) (by decide +kernel)⟩, z_mem 604 (by decide +kernel) (by decide +kernel), z_mem 605 (by decide +kernel) (by decide +kernel), TX1, 3, rfl⟩
def tb_Ni_firstPairAgainst : List (Nat × zI) := [(0, (.aload_n 0, (1, [0]))), (1, (.iload_n 1, (2, [1]))), (2, (.invokevirtual 41, (5, []))), (5, (.ifCond .ne 5, (8, [10]))), (8, (.iconst (-1), (9, []))), (9, (.ireturn, (10, []))), (10, (.iconst 0, (11, []))), (11, (.istore_n 2, (12, [2]))), (12, (.iload_n 2, (13, [2]))), (13, (.bipush 9, (15, []))), (15, (.if_icmp .ge 42, (18, [57]))), (18, (.iload_n 2, (19, [2]))), (19, (.iconst 1, (20, []))), (20, (.iadd, (21, []))), (21, (.istore_n 3, (22, [3]))), (22, (.iload_n 3, (23, [3]))), (23, (.bipush 9, (25, []))), (25, (.if_icmp .ge 26, (28, [51]))), (28, (.aload_n 0, (29, [0]))), (29, (.iload_n 1, (30, [1]))), (30, (.iload_n 2, (31, [2]))), (31, (.iload_n 3, (32, [3]))), (32, (.invokevirtual 44, (35, []))), (35, (.ifCond .eq 10, (38, [45]))), (38, (.bipush 10, (40, []))), (40, (.iload_n 2, (41, [2]))), (41, (.imul, (42, []))), (42, (.iload_n 3, (43, [3]))), (43, (.iadd, (44, []))), (44, (.ireturn, (45, []))), (45, (.iinc 3 1, (48, [3]))), (48, (.goto (-26), (51, [22]))), (51, (.iinc 2 1, (54, [2]))), (54, (.goto (-42), (57, [12]))), (57, (.iconst (-1), (58, []))), (58, (.ireturn, (59, [])))]
abbrev m_Ni_firstPairAgainst : zM := (yX1_firstPairAgainst, (cX1_firstPairAgainst, (4, (some .int, (4, 93)))))
set_option maxRecDepth 20000 in
theorem tk_Ni_firstPairAgainst : tb_Ni_firstPairAgainst.all (z_ent m_Ni_firstPairAgainst.2.1 m_Ni_firstPairAgainst.2.2.1) = true := by decide +kernel
theorem yv_Ni_firstPairAgainst : z_yV m_Ni_firstPairAgainst 1 1 := ⟨⟨⟨by decide +kernel, by decide +kernel, by decide +kernel⟩, z_mem 53 (by decide +kernel) (by decide +kernel), z_mem 624 (by decide +kernel) (by decide +kernel)⟩, z_mem 622 (by decide +kernel) (by decide +kernel), z_mem 623 (by decide +kernel) (by decide +kernel), TX1, 3, rfl⟩
def tb_Ni_alwaysPaid : List (Nat × zI) := [(0, (.iconst 0, (1, []))), (1, (.istore_n 2, (2, [2]))), (2, (.iload_n 2, (3, [2]))), (3, (.aload_n 0, (4, [0]))), (4, (.getfield 21, (7, []))), (7, (.if_icmp .ge 36, (10, [43]))), (10, (.aload_n 0, (11, [0]))), (11, (.getfield 17, (14, []))), (14, (.iload_n 2, (15, [2]))), (15, (.aaload, (16, []))), (16, (.astore_n 3, (17, [3]))), (17, (.aload_n 3, (18, [3]))), (18, (.iload_n 1, (19, [1]))), (19, (.aload_n 0, (20, [0]))), (20, (.getfield 9, (23, []))), (23, (.iload_n 2, (24, [2]))), (24, (.iaload, (25, []))), (25, (.aload_n 3, (26, [3]))), (26, (.invokevirtual 48, (29, []))), (29, (.invokevirtual 52, (32, []))), (32, (.ifCond .ne 5, (35, [37]))), (35, (.iconst 0, (36, []))), (36, (.ireturn, (37, []))), (37, (.iinc 2 1, (40, [2]))), (40, (.goto (-38), (43, [2]))), (43, (.aload_n 0, (44, [0]))), (44, (.getfield 21, (47, []))), (47, (.ifCond .le 7, (50, [54]))), (50, (.iconst 1, (51, []))), (51, (.goto 4, (54, [55]))), (54, (.iconst 0, (55, []))), (55, (.ireturn, (56, [])))]
abbrev m_Ni_alwaysPaid : zM := (yX1_alwaysPaid, (cX1_alwaysPaid, (4, (some .boolean, (3, 70)))))
set_option maxRecDepth 20000 in
theorem tk_Ni_alwaysPaid : tb_Ni_alwaysPaid.all (z_ent m_Ni_alwaysPaid.2.1 m_Ni_alwaysPaid.2.2.1) = true := by decide +kernel
theorem yv_Ni_alwaysPaid : z_yV m_Ni_alwaysPaid 1 1 := ⟨⟨⟨by decide +kernel, by decide +kernel, by decide +kernel⟩, z_mem 53 (by decide +kernel) (by decide +kernel), z_mem 610 (by decide +kernel) (by decide +kernel)⟩, z_mem 609 (by decide +kernel) (by decide +kernel), z_mem 19 (by decide +kernel) (by decide +kernel), TX1, 3, rfl⟩
def tb_Ni_alwaysBetween : List (Nat × zI) := [(0, (.iconst 0, (1, []))), (1, (.istore 4, (3, [4]))), (3, (.iload 4, (5, [4]))), (5, (.aload_n 0, (6, [0]))), (6, (.getfield 21, (9, []))), (9, (.if_icmp .ge 49, (12, [58]))), (12, (.aload_n 0, (13, [0]))), (13, (.getfield 17, (16, []))), (16, (.iload 4, (18, [4]))), (18, (.aaload, (19, []))), (19, (.astore 5, (21, [5]))), (21, (.aload 5, (23, [5]))), (23, (.iload_n 2, (24, [2]))), (24, (.invokevirtual 34, (27, []))), (27, (.ifCond .eq 23, (30, [50]))), (30, (.aload 5, (32, [5]))), (32, (.iload_n 3, (33, [3]))), (33, (.invokevirtual 34, (36, []))), (36, (.ifCond .eq 14, (39, [50]))), (39, (.aload 5, (41, [5]))), (41, (.iload_n 1, (42, [1]))), (42, (.iload_n 2, (43, [2]))), (43, (.iload_n 3, (44, [3]))), (44, (.invokevirtual 56, (47, []))), (47, (.ifCond .ne 5, (50, [52]))), (50, (.iconst 0, (51, []))), (51, (.ireturn, (52, []))), (52, (.iinc 4 1, (55, [4]))), (55, (.goto (-52), (58, [3]))), (58, (.iconst 1, (59, []))), (59, (.ireturn, (60, [])))]
abbrev m_Ni_alwaysBetween : zM := (yX1_alwaysBetween, (cX1_alwaysBetween, (6, (some .boolean, (3, 68)))))
set_option maxRecDepth 20000 in
theorem tk_Ni_alwaysBetween : tb_Ni_alwaysBetween.all (z_ent m_Ni_alwaysBetween.2.1 m_Ni_alwaysBetween.2.2.1) = true := by decide +kernel
theorem yv_Ni_alwaysBetween : z_yV m_Ni_alwaysBetween 3 1 := ⟨⟨⟨by decide +kernel, by decide +kernel, by decide +kernel⟩, z_mem 53 (by decide +kernel) (by decide +kernel), z_mem 616 (by decide +kernel) (by decide +kernel)⟩, z_mem 615 (by decide +kernel) (by decide +kernel), z_mem 20 (by decide +kernel) (by decide +kernel), TX1, 3, rfl⟩
def tb_Ta_copyFrom : List (Nat × zI) := [(0, (.aload_n 0, (1, [0]))), (1, (.getfield 12, (4, []))), (4, (.aload_n 1, (5, [1]))), (5, (.getfield 12, (8, []))), (8, (.invokevirtual 32, (11, []))), (11, (.aload_n 0, (12, [0]))), (12, (.getfield 21, (15, []))), (15, (.aload_n 1, (16, [1]))), (16, (.getfield 21, (19, []))), (19, (.invokevirtual 36, (22, []))), (22, (.aload_n 0, (23, [0]))), (23, (.getfield 28, (26, []))), (26, (.aload_n 1, (27, [1]))), (27, (.getfield 28, (30, []))), (30, (.invokevirtual 39, (33, []))), (33, (.return_, (34, [])))]
abbrev m_Ta_copyFrom : zM := (yX4_copyFrom, (cX4_copyFrom, (2, (none, (4, 124)))))
set_option maxRecDepth 20000 in
theorem tk_Ta_copyFrom : tb_Ta_copyFrom.all (z_ent m_Ta_copyFrom.2.1 m_Ta_copyFrom.2.2.1) = true := by decide +kernel
theorem yv_Ta_copyFrom : z_yV m_Ta_copyFrom 1 4 := ⟨⟨⟨by decide +kernel, by decide +kernel, by decide +kernel⟩, z_mem 50 (by decide +kernel) (by decide +kernel), z_mem 636 (by decide +kernel) (by decide +kernel)⟩, z_mem 634 (by decide +kernel) (by decide +kernel), z_mem 635 (by decide +kernel) (by decide +kernel), TX4, 3, rfl⟩
def tb_Ta_burden : List (Nat × zI) := [(0, (.aload_n 0, (1, [0]))), (1, (.getfield 21, (4, []))), (4, (.invokevirtual 42, (7, []))), (7, (.istore_n 2, (8, [2]))), (8, (.lconst 0, (9, [0]))), (9, (.lstore_n 3, (10, [3]))), (10, (.iconst 1, (11, []))), (11, (.istore 5, (13, [5]))), (13, (.iload 5, (15, [5]))), (15, (.bipush 21, (17, []))), (17, (.if_icmp .ge 48, (20, [65]))), (20, (.aload_n 0, (21, [0]))), (21, (.getfield 12, (24, []))), (24, (.iload 5, (26, [5]))), (26, (.invokevirtual 46, (29, []))), (29, (.istore 6, (31, [6]))), (31, (.iload 6, (33, [6]))), (33, (.ifCond .le 26, (36, [59]))), (36, (.lload_n 3, (37, [3]))), (37, (.iload 5, (39, [5]))), (39, (.i2l, (40, []))), (40, (.iload 6, (42, [6]))), (42, (.i2l, (43, []))), (43, (.lmul, (44, []))), (44, (.aload_n 0, (45, [0]))), (45, (.getfield 21, (48, []))), (48, (.iload_n 1, (49, [1]))), (49, (.iload 5, (51, [5]))), (51, (.iload_n 2, (52, [2]))), (52, (.invokevirtual 50, (55, []))), (55, (.i2l, (56, []))), (56, (.lmul, (57, []))), (57, (.ladd, (58, []))), (58, (.lstore_n 3, (59, [3]))), (59, (.iinc 5 1, (62, [5]))), (62, (.goto (-49), (65, [13]))), (65, (.lload_n 3, (66, [3]))), (66, (.lreturn, (67, [])))]
abbrev m_Ta_burden : zM := (yX4_burden, (cX4_burden, (7, (some .long, (3, 70)))))
set_option maxRecDepth 20000 in
theorem tk_Ta_burden : tb_Ta_burden.all (z_ent m_Ta_burden.2.1 m_Ta_burden.2.2.1) = true := by decide +kernel
theorem yv_Ta_burden : z_yV m_Ta_burden 1 4 := ⟨⟨⟨by decide +kernel, by decide +kernel, by decide +kernel⟩, z_mem 50 (by decide +kernel) (by decide +kernel), z_mem 475 (by decide +kernel) (by decide +kernel)⟩, z_mem 473 (by decide +kernel) (by decide +kernel), z_mem 474 (by decide +kernel) (by decide +kernel), TX4, 3, rfl⟩
def tb_Ta_wholeBurden : List (Nat × zI) := [(0, (.ldc2_w 54, (3, []))), (3, (.aload_n 0, (4, [0]))), (4, (.getfield 12, (7, []))), (7, (.invokevirtual 56, (10, []))), (10, (.i2l, (11, []))), (11, (.lmul, (12, []))), (12, (.lreturn, (13, [])))]
abbrev m_Ta_wholeBurden : zM := (yX4_wholeBurden, (cX4_wholeBurden, (1, (some .long, (1, 22)))))
set_option maxRecDepth 20000 in
theorem tk_Ta_wholeBurden : tb_Ta_wholeBurden.all (z_ent m_Ta_wholeBurden.2.1 m_Ta_wholeBurden.2.2.1) = true := by decide +kernel
theorem yv_Ta_wholeBurden : z_yV m_Ta_wholeBurden 0 4 := ⟨⟨⟨by decide +kernel, by decide +kernel, by decide +kernel⟩, z_mem 50 (by decide +kernel) (by decide +kernel), z_mem 491 (by decide +kernel) (by decide +kernel)⟩, z_mem 489 (by decide +kernel) (by decide +kernel), z_mem 490 (by decide +kernel) (by decide +kernel), TX4, 3, rfl⟩
def tb_Ta_burdenBy : List (Nat × zI) := [(0, (.aload_n 0, (1, [0]))), (1, (.getfield 21, (4, []))), (4, (.iload_n 1, (5, [1]))), (5, (.invokevirtual 59, (8, []))), (8, (.istore_n 3, (9, [3]))), (9, (.aload_n 0, (10, [0]))), (10, (.getfield 21, (13, []))), (13, (.iload_n 1, (14, [1]))), (14, (.iload_n 2, (15, [2]))), (15, (.invokevirtual 62, (18, []))), (18, (.aload_n 0, (19, [0]))), (19, (.iload_n 1, (20, [1]))), (20, (.invokevirtual 66, (23, []))), (23, (.lstore 4, (25, [4]))), (25, (.aload_n 0, (26, [0]))), (26, (.getfield 21, (29, []))), (29, (.iload_n 1, (30, [1]))), (30, (.iload_n 3, (31, [3]))), (31, (.invokevirtual 62, (34, []))), (34, (.lload 4, (36, [4]))), (36, (.lreturn, (37, [])))]
abbrev m_Ta_burdenBy : zM := (yX4_burdenBy, (cX4_burdenBy, (6, (some .long, (4, 96)))))
set_option maxRecDepth 20000 in
theorem tk_Ta_burdenBy : tb_Ta_burdenBy.all (z_ent m_Ta_burdenBy.2.1 m_Ta_burdenBy.2.2.1) = true := by decide +kernel
theorem yv_Ta_burdenBy : z_yV m_Ta_burdenBy 2 4 := ⟨⟨⟨by decide +kernel, by decide +kernel, by decide +kernel⟩, z_mem 50 (by decide +kernel) (by decide +kernel), z_mem 514 (by decide +kernel) (by decide +kernel)⟩, z_mem 512 (by decide +kernel) (by decide +kernel), z_mem 513 (by decide +kernel) (by decide +kernel), TX4, 3, rfl⟩
def tb_Ta_lightestSlip : List (Nat × zI) := [(0, (.aload_n 0, (1, [0]))), (1, (.getfield 21, (4, []))), (4, (.iload_n 1, (5, [1]))), (5, (.invokevirtual 59, (8, []))), (8, (.istore_n 2, (9, [2]))), (9, (.iconst 0, (10, []))), (10, (.istore_n 3, (11, [3]))), (11, (.aload_n 0, (12, [0]))), (12, (.invokevirtual 70, (15, []))), (15, (.lconst 1, (16, [1]))), (16, (.ladd, (17, []))), (17, (.lstore 4, (19, [4]))), (19, (.iconst 0, (20, []))), (20, (.istore 6, (22, [6]))), (22, (.iload 6, (24, [6]))), (24, (.bipush 21, (26, []))), (26, (.if_icmp .ge 41, (29, [67]))), (29, (.aload_n 0, (30, [0]))), (30, (.getfield 21, (33, []))), (33, (.iload_n 1, (34, [1]))), (34, (.iload 6, (36, [6]))), (36, (.invokevirtual 62, (39, []))), (39, (.aload_n 0, (40, [0]))), (40, (.iload_n 1, (41, [1]))), (41, (.invokevirtual 66, (44, []))), (44, (.lstore 7, (46, [7]))), (46, (.lload 7, (48, [7]))), (48, (.lload 4, (50, [4]))), (50, (.lcmp, (51, []))), (51, (.ifCond .ge 10, (54, [61]))), (54, (.lload 7, (56, [7]))), (56, (.lstore 4, (58, [4]))), (58, (.iload 6, (60, [6]))), (60, (.istore_n 3, (61, [3]))), (61, (.iinc 6 1, (64, [6]))), (64, (.goto (-42), (67, [22]))), (67, (.aload_n 0, (68, [0]))), (68, (.getfield 21, (71, []))), (71, (.iload_n 1, (72, [1]))), (72, (.iload_n 2, (73, [2]))), (73, (.invokevirtual 62, (76, []))), (76, (.iload_n 3, (77, [3]))), (77, (.ireturn, (78, [])))]
abbrev m_Ta_lightestSlip : zM := (yX4_lightestSlip, (cX4_lightestSlip, (9, (some .int, (4, 96)))))
set_option maxRecDepth 20000 in
theorem tk_Ta_lightestSlip : tb_Ta_lightestSlip.all (z_ent m_Ta_lightestSlip.2.1 m_Ta_lightestSlip.2.2.1) = true := by decide +kernel
theorem yv_Ta_lightestSlip : z_yV m_Ta_lightestSlip 1 4 := ⟨⟨⟨by decide +kernel, by decide +kernel, by decide +kernel⟩, z_mem 50 (by decide +kernel) (by decide +kernel), z_mem 486 (by decide +kernel) (by decide +kernel)⟩, z_mem 484 (by decide +kernel) (by decide +kernel), z_mem 485 (by decide +kernel) (by decide +kernel), TX4, 3, rfl⟩
def tb_Ta_betterSlip : List (Nat × zI) := [(0, (.aload_n 0, (1, [0]))), (1, (.getfield 21, (4, []))), (4, (.iload_n 1, (5, [1]))), (5, (.invokevirtual 59, (8, []))), (8, (.istore_n 2, (9, [2]))), (9, (.aload_n 0, (10, [0]))), (10, (.getfield 21, (13, []))), (13, (.iload_n 1, (14, [1]))), (14, (.invokevirtual 74, (17, []))), (17, (.ifCond .eq 5, (20, [22]))), (20, (.iload_n 2, (21, [2]))), (21, (.ireturn, (22, []))), (22, (.aload_n 0, (23, [0]))), (23, (.iload_n 1, (24, [1]))), (24, (.invokevirtual 78, (27, []))), (27, (.istore_n 3, (28, [3]))), (28, (.aload_n 0, (29, [0]))), (29, (.iload_n 1, (30, [1]))), (30, (.iload_n 3, (31, [3]))), (31, (.invokevirtual 81, (34, []))), (34, (.aload_n 0, (35, [0]))), (35, (.iload_n 1, (36, [1]))), (36, (.invokevirtual 66, (39, []))), (39, (.lcmp, (40, []))), (40, (.ifCond .ge 7, (43, [47]))), (43, (.iload_n 3, (44, [3]))), (44, (.goto 4, (47, [48]))), (47, (.iload_n 2, (48, [2]))), (48, (.ireturn, (49, [])))]
abbrev m_Ta_betterSlip : zM := (yX4_betterSlip, (cX4_betterSlip, (4, (some .int, (5, 124)))))
set_option maxRecDepth 20000 in
theorem tk_Ta_betterSlip : tb_Ta_betterSlip.all (z_ent m_Ta_betterSlip.2.1 m_Ta_betterSlip.2.2.1) = true := by decide +kernel
theorem yv_Ta_betterSlip : z_yV m_Ta_betterSlip 1 4 := ⟨⟨⟨by decide +kernel, by decide +kernel, by decide +kernel⟩, z_mem 50 (by decide +kernel) (by decide +kernel), z_mem 508 (by decide +kernel) (by decide +kernel)⟩, z_mem 507 (by decide +kernel) (by decide +kernel), z_mem 14 (by decide +kernel) (by decide +kernel), TX4, 3, rfl⟩
def tb_Ta_nobodyWouldChange : List (Nat × zI) := [(0, (.iconst 0, (1, []))), (1, (.istore_n 1, (2, [1]))), (2, (.iload_n 1, (3, [1]))), (3, (.aload_n 0, (4, [0]))), (4, (.getfield 21, (7, []))), (7, (.invokevirtual 85, (10, []))), (10, (.if_icmp .ge 27, (13, [37]))), (13, (.aload_n 0, (14, [0]))), (14, (.iload_n 1, (15, [1]))), (15, (.invokevirtual 88, (18, []))), (18, (.aload_n 0, (19, [0]))), (19, (.getfield 21, (22, []))), (22, (.iload_n 1, (23, [1]))), (23, (.invokevirtual 59, (26, []))), (26, (.if_icmp .eq 5, (29, [31]))), (29, (.iconst 0, (30, []))), (30, (.ireturn, (31, []))), (31, (.iinc 1 1, (34, [1]))), (34, (.goto (-32), (37, [2]))), (37, (.iconst 1, (38, []))), (38, (.ireturn, (39, [])))]
abbrev m_Ta_nobodyWouldChange : zM := (yX4_nobodyWouldChange, (cX4_nobodyWouldChange, (2, (some .boolean, (6, 147)))))
set_option maxRecDepth 20000 in
theorem tk_Ta_nobodyWouldChange : tb_Ta_nobodyWouldChange.all (z_ent m_Ta_nobodyWouldChange.2.1 m_Ta_nobodyWouldChange.2.2.1) = true := by decide +kernel
theorem yv_Ta_nobodyWouldChange : z_yV m_Ta_nobodyWouldChange 0 4 := ⟨⟨⟨by decide +kernel, by decide +kernel, by decide +kernel⟩, z_mem 50 (by decide +kernel) (by decide +kernel), z_mem 503 (by decide +kernel) (by decide +kernel)⟩, z_mem 501 (by decide +kernel) (by decide +kernel), z_mem 502 (by decide +kernel) (by decide +kernel), TX4, 3, rfl⟩
def tb_Ta_takeTurns : List (Nat × zI) := [(0, (.iconst 0, (1, []))), (1, (.istore_n 2, (2, [2]))), (2, (.iconst 0, (3, []))), (3, (.istore_n 3, (4, [3]))), (4, (.iconst 0, (5, []))), (5, (.istore 4, (7, [4]))), (7, (.iconst 0, (8, []))), (8, (.istore 5, (10, [5]))), (10, (.iload 5, (12, [5]))), (12, (.iload_n 1, (13, [1]))), (13, (.if_icmp .ge 88, (16, [101]))), (16, (.iload_n 3, (17, [3]))), (17, (.aload_n 0, (18, [0]))), (18, (.getfield 21, (21, []))), (21, (.invokevirtual 85, (24, []))), (24, (.if_icmp .ge 77, (27, [101]))), (27, (.aload_n 0, (28, [0]))), (28, (.iload 4, (30, [4]))), (30, (.invokevirtual 88, (33, []))), (33, (.istore 6, (35, [6]))), (35, (.iload 6, (37, [6]))), (37, (.aload_n 0, (38, [0]))), (38, (.getfield 21, (41, []))), (41, (.iload 4, (43, [4]))), (43, (.invokevirtual 59, (46, []))), (46, (.if_icmp .ne 9, (49, [55]))), (49, (.iinc 3 1, (52, [3]))), (52, (.goto 19, (55, [71]))), (55, (.aload_n 0, (56, [0]))), (56, (.getfield 21, (59, []))), (59, (.iload 4, (61, [4]))), (61, (.iload 6, (63, [6]))), (63, (.invokevirtual 62, (66, []))), (66, (.iinc 2 1, (69, [2]))), (69, (.iconst 0, (70, []))), (70, (.istore_n 3, (71, [3]))), (71, (.iload 4, (73, [4]))), (73, (.iconst 1, (74, []))), (74, (.iadd, (75, []))), (75, (.aload_n 0, (76, [0]))), (76, (.getfield 21, (79, []))), (79, (.invokevirtual 85, (82, []))), (82, (.if_icmp .ge 10, (85, [92]))), (85, (.iload 4, (87, [4]))), (87, (.iconst 1, (88, []))), (88, (.iadd, (89, []))), (89, (.goto 4, (92, [93]))), (92, (.iconst 0, (93, []))), (93, (.istore 4, (95, [4]))), (95, (.iinc 5 1, (98, [5]))), (98, (.goto (-88), (101, [10]))), (101, (.iload_n 2, (102, [2]))), (102, (.ireturn, (103, [])))]
abbrev m_Ta_takeTurns : zM := (yX4_takeTurns, (cX4_takeTurns, (7, (some .int, (6, 147)))))
set_option maxRecDepth 20000 in
theorem tk_Ta_takeTurns : tb_Ta_takeTurns.all (z_ent m_Ta_takeTurns.2.1 m_Ta_takeTurns.2.2.1) = true := by decide +kernel
theorem yv_Ta_takeTurns : z_yV m_Ta_takeTurns 1 4 := ⟨⟨⟨by decide +kernel, by decide +kernel, by decide +kernel⟩, z_mem 50 (by decide +kernel) (by decide +kernel), z_mem 522 (by decide +kernel) (by decide +kernel)⟩, z_mem 520 (by decide +kernel) (by decide +kernel), z_mem 521 (by decide +kernel) (by decide +kernel), TX4, 3, rfl⟩
def tb_Ta_hardestPair : List (Nat × zI) := [(0, (.aload_n 0, (1, [0]))), (1, (.getfield 21, (4, []))), (4, (.iload_n 1, (5, [1]))), (5, (.invokevirtual 59, (8, []))), (8, (.istore 6, (10, [6]))), (10, (.aload_n 0, (11, [0]))), (11, (.getfield 21, (14, []))), (14, (.iload_n 2, (15, [2]))), (15, (.invokevirtual 59, (18, []))), (18, (.istore 7, (20, [7]))), (20, (.iconst 0, (21, []))), (21, (.istore 8, (23, [8]))), (23, (.ldc2_w 91, (26, []))), (26, (.lstore 9, (28, [9]))), (28, (.iconst 0, (29, []))), (29, (.istore 11, (31, [11]))), (31, (.iload 11, (33, [11]))), (33, (.sipush 441, (36, []))), (36, (.if_icmp .ge 48, (39, [84]))), (39, (.lload 9, (41, [9]))), (41, (.lload 4, (43, [4]))), (43, (.lcmp, (44, []))), (44, (.ifCond .ge 40, (47, [84]))), (47, (.aload_n 0, (48, [0]))), (48, (.iload_n 1, (49, [1]))), (49, (.iload_n 2, (50, [2]))), (50, (.iload 11, (52, [11]))), (52, (.invokevirtual 93, (55, []))), (55, (.aload_n 0, (56, [0]))), (56, (.iload_n 3, (57, [3]))), (57, (.invokevirtual 66, (60, []))), (60, (.lstore 12, (62, [12]))), (62, (.lload 12, (64, [12]))), (64, (.lload 9, (66, [9]))), (66, (.lcmp, (67, []))), (67, (.ifCond .le 11, (70, [78]))), (70, (.lload 12, (72, [12]))), (72, (.lstore 9, (74, [9]))), (74, (.iload 11, (76, [11]))), (76, (.istore 8, (78, [8]))), (78, (.iinc 11 1, (81, [11]))), (81, (.goto (-50), (84, [31]))), (84, (.aload_n 0, (85, [0]))), (85, (.getfield 21, (88, []))), (88, (.iload_n 1, (89, [1]))), (89, (.iload 6, (91, [6]))), (91, (.invokevirtual 62, (94, []))), (94, (.aload_n 0, (95, [0]))), (95, (.getfield 21, (98, []))), (98, (.iload_n 2, (99, [2]))), (99, (.iload 7, (101, [7]))), (101, (.invokevirtual 62, (104, []))), (104, (.iload 8, (106, [8]))), (106, (.ireturn, (107, [])))]
abbrev m_Ta_hardestPair : zM := (yX4_hardestPair, (cX4_hardestPair, (14, (some .int, (4, 96)))))
set_option maxRecDepth 20000 in
theorem tk_Ta_hardestPair : tb_Ta_hardestPair.all (z_ent m_Ta_hardestPair.2.1 m_Ta_hardestPair.2.2.1) = true := by decide +kernel
theorem yv_Ta_hardestPair : z_yV m_Ta_hardestPair 4 4 := ⟨⟨⟨by decide +kernel, by decide +kernel, by decide +kernel⟩, z_mem 50 (by decide +kernel) (by decide +kernel), z_mem 535 (by decide +kernel) (by decide +kernel)⟩, z_mem 533 (by decide +kernel) (by decide +kernel), z_mem 534 (by decide +kernel) (by decide +kernel), TX4, 3, rfl⟩
def tb_Ta_putPair : List (Nat × zI) := [(0, (.aload_n 0, (1, [0]))), (1, (.getfield 21, (4, []))), (4, (.iload_n 1, (5, [1]))), (5, (.iload_n 3, (6, [3]))), (6, (.bipush 21, (8, []))), (8, (.idiv, (9, []))), (9, (.invokevirtual 62, (12, []))), (12, (.aload_n 0, (13, [0]))), (13, (.getfield 21, (16, []))), (16, (.iload_n 2, (17, [2]))), (17, (.iload_n 3, (18, [3]))), (18, (.bipush 21, (20, []))), (20, (.irem, (21, []))), (21, (.invokevirtual 62, (24, []))), (24, (.return_, (25, [])))]
abbrev m_Ta_putPair : zM := (yX4_putPair, (cX4_putPair, (4, (none, (2, 43)))))
set_option maxRecDepth 20000 in
theorem tk_Ta_putPair : tb_Ta_putPair.all (z_ent m_Ta_putPair.2.1 m_Ta_putPair.2.2.1) = true := by decide +kernel
theorem yv_Ta_putPair : z_yV m_Ta_putPair 3 4 := ⟨⟨⟨by decide +kernel, by decide +kernel, by decide +kernel⟩, z_mem 50 (by decide +kernel) (by decide +kernel), z_mem 540 (by decide +kernel) (by decide +kernel)⟩, z_mem 539 (by decide +kernel) (by decide +kernel), z_mem 16 (by decide +kernel) (by decide +kernel), TX4, 3, rfl⟩
def tb_Ta_burdenByPair : List (Nat × zI) := [(0, (.aload_n 0, (1, [0]))), (1, (.getfield 21, (4, []))), (4, (.iload_n 1, (5, [1]))), (5, (.invokevirtual 59, (8, []))), (8, (.istore 5, (10, [5]))), (10, (.aload_n 0, (11, [0]))), (11, (.getfield 21, (14, []))), (14, (.iload_n 2, (15, [2]))), (15, (.invokevirtual 59, (18, []))), (18, (.istore 6, (20, [6]))), (20, (.aload_n 0, (21, [0]))), (21, (.iload_n 1, (22, [1]))), (22, (.iload_n 2, (23, [2]))), (23, (.iload 4, (25, [4]))), (25, (.invokevirtual 93, (28, []))), (28, (.aload_n 0, (29, [0]))), (29, (.iload_n 3, (30, [3]))), (30, (.invokevirtual 66, (33, []))), (33, (.lstore 7, (35, [7]))), (35, (.aload_n 0, (36, [0]))), (36, (.getfield 21, (39, []))), (39, (.iload_n 1, (40, [1]))), (40, (.iload 5, (42, [5]))), (42, (.invokevirtual 62, (45, []))), (45, (.aload_n 0, (46, [0]))), (46, (.getfield 21, (49, []))), (49, (.iload_n 2, (50, [2]))), (50, (.iload 6, (52, [6]))), (52, (.invokevirtual 62, (55, []))), (55, (.lload 7, (57, [7]))), (57, (.lreturn, (58, [])))]
abbrev m_Ta_burdenByPair : zM := (yX4_burdenByPair, (cX4_burdenByPair, (9, (some .long, (4, 96)))))
set_option maxRecDepth 20000 in
theorem tk_Ta_burdenByPair : tb_Ta_burdenByPair.all (z_ent m_Ta_burdenByPair.2.1 m_Ta_burdenByPair.2.2.1) = true := by decide +kernel
theorem yv_Ta_burdenByPair : z_yV m_Ta_burdenByPair 4 4 := ⟨⟨⟨by decide +kernel, by decide +kernel, by decide +kernel⟩, z_mem 50 (by decide +kernel) (by decide +kernel), z_mem 553 (by decide +kernel) (by decide +kernel)⟩, z_mem 552 (by decide +kernel) (by decide +kernel), z_mem 17 (by decide +kernel) (by decide +kernel), TX4, 3, rfl⟩
def tb_Ta_safestSlip : List (Nat × zI) := [(0, (.aload_n 0, (1, [0]))), (1, (.getfield 21, (4, []))), (4, (.iload_n 3, (5, [3]))), (5, (.invokevirtual 59, (8, []))), (8, (.istore 4, (10, [4]))), (10, (.iconst 0, (11, []))), (11, (.istore 5, (13, [5]))), (13, (.aload_n 0, (14, [0]))), (14, (.invokevirtual 70, (17, []))), (17, (.lconst 1, (18, [1]))), (18, (.ladd, (19, []))), (19, (.lstore 6, (21, [6]))), (21, (.iconst 0, (22, []))), (22, (.istore 8, (24, [8]))), (24, (.iload 8, (26, [8]))), (26, (.bipush 21, (28, []))), (28, (.if_icmp .ge 53, (31, [81]))), (31, (.aload_n 0, (32, [0]))), (32, (.getfield 21, (35, []))), (35, (.iload_n 3, (36, [3]))), (36, (.iload 8, (38, [8]))), (38, (.invokevirtual 62, (41, []))), (41, (.aload_n 0, (42, [0]))), (42, (.iload_n 1, (43, [1]))), (43, (.iload_n 2, (44, [2]))), (44, (.iload_n 3, (45, [3]))), (45, (.aload_n 0, (46, [0]))), (46, (.iload_n 1, (47, [1]))), (47, (.iload_n 2, (48, [2]))), (48, (.iload_n 3, (49, [3]))), (49, (.lload 6, (51, [6]))), (51, (.invokevirtual 97, (54, []))), (54, (.invokevirtual 101, (57, []))), (57, (.lstore 9, (59, [9]))), (59, (.lload 9, (61, [9]))), (61, (.lload 6, (63, [6]))), (63, (.lcmp, (64, []))), (64, (.ifCond .ge 11, (67, [75]))), (67, (.lload 9, (69, [9]))), (69, (.lstore 6, (71, [6]))), (71, (.iload 8, (73, [8]))), (73, (.istore 5, (75, [5]))), (75, (.iinc 8 1, (78, [8]))), (78, (.goto (-54), (81, [24]))), (81, (.aload_n 0, (82, [0]))), (82, (.getfield 21, (85, []))), (85, (.iload_n 3, (86, [3]))), (86, (.iload 4, (88, [4]))), (88, (.invokevirtual 62, (91, []))), (91, (.iload 5, (93, [5]))), (93, (.ireturn, (94, [])))]
abbrev m_Ta_safestSlip : zM := (yX4_safestSlip, (cX4_safestSlip, (11, (some .int, (5, 129)))))
set_option maxRecDepth 20000 in
theorem tk_Ta_safestSlip : tb_Ta_safestSlip.all (z_ent m_Ta_safestSlip.2.1 m_Ta_safestSlip.2.2.1) = true := by decide +kernel
theorem yv_Ta_safestSlip : z_yV m_Ta_safestSlip 3 4 := ⟨⟨⟨by decide +kernel, by decide +kernel, by decide +kernel⟩, z_mem 50 (by decide +kernel) (by decide +kernel), z_mem 548 (by decide +kernel) (by decide +kernel)⟩, z_mem 546 (by decide +kernel) (by decide +kernel), z_mem 547 (by decide +kernel) (by decide +kernel), TX4, 3, rfl⟩
def tb_Fp_weight : List (Nat × zI) := [(0, (.iload_n 1, (1, [1]))), (1, (.invokestatic 51, (4, []))), (4, (.ifCond .eq 13, (7, [17]))), (7, (.iload_n 2, (8, [2]))), (8, (.ifCond .lt 9, (11, [17]))), (11, (.iload_n 2, (12, [2]))), (12, (.bipush 99, (14, []))), (14, (.if_icmp .le 5, (17, [19]))), (17, (.iconst (-1), (18, []))), (18, (.ireturn, (19, []))), (19, (.aload_n 0, (20, [0]))), (20, (.getfield 12, (23, []))), (23, (.getfield 55, (26, []))), (26, (.iload_n 1, (27, [1]))), (27, (.invokevirtual 58, (30, []))), (30, (.istore_n 3, (31, [3]))), (31, (.aload_n 0, (32, [0]))), (32, (.getfield 12, (35, []))), (35, (.getfield 55, (38, []))), (38, (.iload_n 1, (39, [1]))), (39, (.iload_n 2, (40, [2]))), (40, (.invokevirtual 62, (43, []))), (43, (.iload_n 3, (44, [3]))), (44, (.ireturn, (45, [])))]
abbrev m_Fp_weight : zM := (yX6_weight, (cX6_weight, (4, (some .int, (2, 42)))))
set_option maxRecDepth 20000 in
theorem tk_Fp_weight : tb_Fp_weight.all (z_ent m_Fp_weight.2.1 m_Fp_weight.2.2.1) = true := by decide +kernel
theorem yv_Fp_weight : z_yV m_Fp_weight 2 6 := ⟨⟨⟨by decide +kernel, by decide +kernel, by decide +kernel⟩, z_mem 49 (by decide +kernel) (by decide +kernel), z_mem 205 (by decide +kernel) (by decide +kernel)⟩, z_mem 203 (by decide +kernel) (by decide +kernel), z_mem 204 (by decide +kernel) (by decide +kernel), TX6, 7, rfl⟩
def tb_Fp_guest : List (Nat × zI) := [(0, (.iload_n 1, (1, [1]))), (1, (.ifCond .lt 8, (4, [9]))), (4, (.iload_n 1, (5, [1]))), (5, (.iconst 3, (6, []))), (6, (.if_icmp .le 5, (9, [11]))), (9, (.iconst (-1), (10, []))), (10, (.ireturn, (11, []))), (11, (.aload_n 0, (12, [0]))), (12, (.getfield 12, (15, []))), (15, (.getfield 66, (18, []))), (18, (.invokevirtual 69, (21, []))), (21, (.bipush 9, (23, []))), (23, (.if_icmp .lt 6, (26, [29]))), (26, (.bipush (-3), (28, []))), (28, (.ireturn, (29, []))), (29, (.aload_n 0, (30, [0]))), (30, (.getfield 12, (33, []))), (33, (.getfield 66, (36, []))), (36, (.iload_n 1, (37, [1]))), (37, (.iconst 0, (38, []))), (38, (.invokevirtual 73, (41, []))), (41, (.aload_n 0, (42, [0]))), (42, (.getfield 12, (45, []))), (45, (.getfield 66, (48, []))), (48, (.invokevirtual 69, (51, []))), (51, (.iconst 1, (52, []))), (52, (.isub, (53, []))), (53, (.ireturn, (54, [])))]
abbrev m_Fp_guest : zM := (yX6_guest, (cX6_guest, (2, (some .int, (1, 22)))))
set_option maxRecDepth 20000 in
theorem tk_Fp_guest : tb_Fp_guest.all (z_ent m_Fp_guest.2.1 m_Fp_guest.2.2.1) = true := by decide +kernel
theorem yv_Fp_guest : z_yV m_Fp_guest 1 6 := ⟨⟨⟨by decide +kernel, by decide +kernel, by decide +kernel⟩, z_mem 49 (by decide +kernel) (by decide +kernel), z_mem 221 (by decide +kernel) (by decide +kernel)⟩, z_mem 219 (by decide +kernel) (by decide +kernel), z_mem 220 (by decide +kernel) (by decide +kernel), TX6, 7, rfl⟩
def tb_Fp_slip : List (Nat × zI) := [(0, (.aload_n 0, (1, [0]))), (1, (.getfield 12, (4, []))), (4, (.getfield 66, (7, []))), (7, (.iload_n 1, (8, [1]))), (8, (.invokevirtual 76, (11, []))), (11, (.ifCond .eq 10, (14, [21]))), (14, (.iload_n 2, (15, [2]))), (15, (.invokestatic 51, (18, []))), (18, (.ifCond .ne 5, (21, [23]))), (21, (.iconst (-1), (22, []))), (22, (.ireturn, (23, []))), (23, (.aload_n 0, (24, [0]))), (24, (.getfield 12, (27, []))), (27, (.getfield 66, (30, []))), (30, (.iload_n 1, (31, [1]))), (31, (.invokevirtual 79, (34, []))), (34, (.ifCond .eq 10, (37, [44]))), (37, (.iload_n 2, (38, [2]))), (38, (.ifCond .eq 6, (41, [44]))), (41, (.bipush (-2), (43, []))), (43, (.ireturn, (44, []))), (44, (.aload_n 0, (45, [0]))), (45, (.getfield 12, (48, []))), (48, (.getfield 66, (51, []))), (51, (.iload_n 1, (52, [1]))), (52, (.invokevirtual 82, (55, []))), (55, (.istore_n 3, (56, [3]))), (56, (.aload_n 0, (57, [0]))), (57, (.getfield 12, (60, []))), (60, (.getfield 66, (63, []))), (63, (.iload_n 1, (64, [1]))), (64, (.iload_n 2, (65, [2]))), (65, (.invokevirtual 85, (68, []))), (68, (.iload_n 3, (69, [3]))), (69, (.ireturn, (70, [])))]
abbrev m_Fp_slip : zM := (yX6_slip, (cX6_slip, (4, (some .int, (3, 63)))))
set_option maxRecDepth 20000 in
theorem tk_Fp_slip : tb_Fp_slip.all (z_ent m_Fp_slip.2.1 m_Fp_slip.2.2.1) = true := by decide +kernel
theorem yv_Fp_slip : z_yV m_Fp_slip 2 6 := ⟨⟨⟨by decide +kernel, by decide +kernel, by decide +kernel⟩, z_mem 49 (by decide +kernel) (by decide +kernel), z_mem 233 (by decide +kernel) (by decide +kernel)⟩, z_mem 231 (by decide +kernel) (by decide +kernel), z_mem 232 (by decide +kernel) (by decide +kernel), TX6, 7, rfl⟩
def tb_Fp_write : List (Nat × zI) := [(0, (.iload_n 1, (1, [1]))), (1, (.invokestatic 51, (4, []))), (4, (.ifCond .ne 5, (7, [9]))), (7, (.iconst (-1), (8, []))), (8, (.ireturn, (9, []))), (9, (.aload_n 0, (10, [0]))), (10, (.getfield 12, (13, []))), (13, (.getfield 55, (16, []))), (16, (.invokevirtual 88, (19, []))), (19, (.ifCond .ne 6, (22, [25]))), (22, (.bipush (-2), (24, []))), (24, (.ireturn, (25, []))), (25, (.aload_n 0, (26, [0]))), (26, (.getfield 12, (29, []))), (29, (.getfield 66, (32, []))), (32, (.iload_n 1, (33, [1]))), (33, (.aload_n 0, (34, [0]))), (34, (.getfield 12, (37, []))), (37, (.getfield 55, (40, []))), (40, (.invokevirtual 91, (43, []))), (43, (.invokevirtual 94, (46, []))), (46, (.ireturn, (47, [])))]
abbrev m_Fp_write : zM := (yX6_write, (cX6_write, (2, (some .int, (4, 90)))))
set_option maxRecDepth 20000 in
theorem tk_Fp_write : tb_Fp_write.all (z_ent m_Fp_write.2.1 m_Fp_write.2.2.1) = true := by decide +kernel
theorem yv_Fp_write : z_yV m_Fp_write 1 6 := ⟨⟨⟨by decide +kernel, by decide +kernel, by decide +kernel⟩, z_mem 49 (by decide +kernel) (by decide +kernel), z_mem 258 (by decide +kernel) (by decide +kernel)⟩, z_mem 256 (by decide +kernel) (by decide +kernel), z_mem 257 (by decide +kernel) (by decide +kernel), TX6, 7, rfl⟩
def tb_Fp_told : List (Nat × zI) := [(0, (.aload_n 0, (1, [0]))), (1, (.getfield 12, (4, []))), (4, (.getfield 66, (7, []))), (7, (.iload_n 1, (8, [1]))), (8, (.invokevirtual 76, (11, []))), (11, (.ifCond .eq 12, (14, [23]))), (14, (.iload_n 2, (15, [2]))), (15, (.ifCond .lt 8, (18, [23]))), (18, (.iload_n 2, (19, [2]))), (19, (.iconst 1, (20, []))), (20, (.if_icmp .le 5, (23, [25]))), (23, (.iconst (-1), (24, []))), (24, (.ireturn, (25, []))), (25, (.iload_n 2, (26, [2]))), (26, (.ifCond .ne 17, (29, [43]))), (29, (.aload_n 0, (30, [0]))), (30, (.getfield 12, (33, []))), (33, (.getfield 66, (36, []))), (36, (.iload_n 1, (37, [1]))), (37, (.invokevirtual 98, (40, []))), (40, (.goto 14, (43, [54]))), (43, (.aload_n 0, (44, [0]))), (44, (.getfield 12, (47, []))), (47, (.getfield 66, (50, []))), (50, (.iload_n 1, (51, [1]))), (51, (.invokevirtual 82, (54, []))), (54, (.ireturn, (55, [])))]
abbrev m_Fp_told : zM := (yX6_told, (cX6_told, (3, (some .int, (2, 42)))))
set_option maxRecDepth 20000 in
theorem tk_Fp_told : tb_Fp_told.all (z_ent m_Fp_told.2.1 m_Fp_told.2.2.1) = true := by decide +kernel
theorem yv_Fp_told : z_yV m_Fp_told 2 6 := ⟨⟨⟨by decide +kernel, by decide +kernel, by decide +kernel⟩, z_mem 49 (by decide +kernel) (by decide +kernel), z_mem 284 (by decide +kernel) (by decide +kernel)⟩, z_mem 282 (by decide +kernel) (by decide +kernel), z_mem 283 (by decide +kernel) (by decide +kernel), TX6, 7, rfl⟩
def tb_Fp_rule : List (Nat × zI) := [(0, (.iload_n 1, (1, [1]))), (1, (.ifCond .ne 24, (4, [25]))), (4, (.iload_n 2, (5, [2]))), (5, (.ifCond .lt 20, (8, [25]))), (8, (.iload_n 2, (9, [2]))), (9, (.iconst 3, (10, []))), (10, (.if_icmp .gt 15, (13, [25]))), (13, (.aload_n 0, (14, [0]))), (14, (.getfield 12, (17, []))), (17, (.getfield 66, (20, []))), (20, (.iload_n 2, (21, [2]))), (21, (.invokevirtual 101, (24, []))), (24, (.ireturn, (25, []))), (25, (.iload_n 1, (26, [1]))), (26, (.iconst 1, (27, []))), (27, (.if_icmp .ne 24, (30, [51]))), (30, (.iload_n 2, (31, [2]))), (31, (.ifCond .lt 20, (34, [51]))), (34, (.iload_n 2, (35, [2]))), (35, (.iconst 2, (36, []))), (36, (.if_icmp .gt 15, (39, [51]))), (39, (.aload_n 0, (40, [0]))), (40, (.getfield 12, (43, []))), (43, (.getfield 66, (46, []))), (46, (.iload_n 2, (47, [2]))), (47, (.invokevirtual 104, (50, []))), (50, (.ireturn, (51, []))), (51, (.iconst (-1), (52, []))), (52, (.ireturn, (53, [])))]
abbrev m_Fp_rule : zM := (yX6_rule, (cX6_rule, (3, (some .int, (1, 22)))))
set_option maxRecDepth 20000 in
theorem tk_Fp_rule : tb_Fp_rule.all (z_ent m_Fp_rule.2.1 m_Fp_rule.2.2.1) = true := by decide +kernel
theorem yv_Fp_rule : z_yV m_Fp_rule 2 6 := ⟨⟨⟨by decide +kernel, by decide +kernel, by decide +kernel⟩, z_mem 49 (by decide +kernel) (by decide +kernel), z_mem 289 (by decide +kernel) (by decide +kernel)⟩, z_mem 287 (by decide +kernel) (by decide +kernel), z_mem 288 (by decide +kernel) (by decide +kernel), TX6, 7, rfl⟩
def tb_Fp_type : List (Nat × zI) := [(0, (.iload_n 3, (1, [3]))), (1, (.iconst 1, (2, []))), (2, (.if_icmp .lt 17, (5, [19]))), (5, (.iload_n 3, (6, [3]))), (6, (.bipush 8, (8, []))), (8, (.if_icmp .gt 11, (11, [19]))), (11, (.lload_n 1, (12, [1]))), (12, (.iload_n 3, (13, [3]))), (13, (.invokestatic 107, (16, []))), (16, (.ifCond .ne 5, (19, [21]))), (19, (.iconst (-1), (20, []))), (20, (.ireturn, (21, []))), (21, (.aload_n 0, (22, [0]))), (22, (.getfield 26, (25, []))), (25, (.invokevirtual 111, (28, []))), (28, (.bipush 80, (30, []))), (30, (.iload_n 3, (31, [3]))), (31, (.isub, (32, []))), (32, (.if_icmp .le 6, (35, [38]))), (35, (.bipush (-3), (37, []))), (37, (.ireturn, (38, []))), (38, (.iload_n 3, (39, [3]))), (39, (.iconst 1, (40, []))), (40, (.isub, (41, []))), (41, (.istore 4, (43, [4]))), (43, (.iload 4, (45, [4]))), (45, (.ifCond .lt 22, (48, [67]))), (48, (.aload_n 0, (49, [0]))), (49, (.getfield 26, (52, []))), (52, (.lload_n 1, (53, [1]))), (53, (.iload 4, (55, [4]))), (55, (.invokestatic 112, (58, []))), (58, (.invokevirtual 116, (61, []))), (61, (.iinc 4 (-1), (64, [4]))), (64, (.goto (-21), (67, [43]))), (67, (.aload_n 0, (68, [0]))), (68, (.getfield 26, (71, []))), (71, (.invokevirtual 111, (74, []))), (74, (.ireturn, (75, [])))]
abbrev m_Fp_type : zM := (yX6_type, (cX6_type, (5, (some .int, (2, 46)))))
set_option maxRecDepth 20000 in
theorem tk_Fp_type : tb_Fp_type.all (z_ent m_Fp_type.2.1 m_Fp_type.2.2.1) = true := by decide +kernel
theorem yv_Fp_type : z_yV m_Fp_type 2 6 := ⟨⟨⟨by decide +kernel, by decide +kernel, by decide +kernel⟩, z_mem 49 (by decide +kernel) (by decide +kernel), z_mem 301 (by decide +kernel) (by decide +kernel)⟩, z_mem 299 (by decide +kernel) (by decide +kernel), z_mem 300 (by decide +kernel) (by decide +kernel), TX6, 7, rfl⟩
def tb_Fp_supper : List (Nat × zI) := [(0, (.aload_n 0, (1, [0]))), (1, (.getfield 26, (4, []))), (4, (.aload_n 0, (5, [0]))), (5, (.getfield 33, (8, []))), (8, (.invokevirtual 120, (11, []))), (11, (.istore_n 1, (12, [1]))), (12, (.iload_n 1, (13, [1]))), (13, (.ifCond .eq 5, (16, [18]))), (16, (.iload_n 1, (17, [1]))), (17, (.ireturn, (18, []))), (18, (.aload_n 0, (19, [0]))), (19, (.getfield 12, (22, []))), (22, (.getfield 55, (25, []))), (25, (.aload_n 0, (26, [0]))), (26, (.getfield 33, (29, []))), (29, (.invokevirtual 124, (32, []))), (32, (.aload_n 0, (33, [0]))), (33, (.getfield 12, (36, []))), (36, (.getfield 55, (39, []))), (39, (.invokevirtual 88, (42, []))), (42, (.ireturn, (43, [])))]
abbrev m_Fp_supper : zM := (yX6_supper, (cX6_supper, (2, (some .int, (5, 108)))))
set_option maxRecDepth 20000 in
theorem tk_Fp_supper : tb_Fp_supper.all (z_ent m_Fp_supper.2.1 m_Fp_supper.2.2.1) = true := by decide +kernel
theorem yv_Fp_supper : z_yV m_Fp_supper 0 6 := ⟨⟨⟨by decide +kernel, by decide +kernel, by decide +kernel⟩, z_mem 49 (by decide +kernel) (by decide +kernel), z_mem 319 (by decide +kernel) (by decide +kernel)⟩, z_mem 317 (by decide +kernel) (by decide +kernel), z_mem 318 (by decide +kernel) (by decide +kernel), TX6, 7, rfl⟩
def tb_Fp_guests : List (Nat × zI) := [(0, (.aload_n 0, (1, [0]))), (1, (.getfield 26, (4, []))), (4, (.aload_n 0, (5, [0]))), (5, (.getfield 40, (8, []))), (8, (.invokevirtual 128, (11, []))), (11, (.istore_n 1, (12, [1]))), (12, (.iload_n 1, (13, [1]))), (13, (.ifCond .eq 5, (16, [18]))), (16, (.iload_n 1, (17, [1]))), (17, (.ireturn, (18, []))), (18, (.aload_n 0, (19, [0]))), (19, (.getfield 12, (22, []))), (22, (.getfield 66, (25, []))), (25, (.aload_n 0, (26, [0]))), (26, (.getfield 40, (29, []))), (29, (.invokevirtual 132, (32, []))), (32, (.aload_n 0, (33, [0]))), (33, (.getfield 12, (36, []))), (36, (.getfield 136, (39, []))), (39, (.invokevirtual 140, (42, []))), (42, (.aload_n 0, (43, [0]))), (43, (.getfield 12, (46, []))), (46, (.getfield 66, (49, []))), (49, (.invokevirtual 69, (52, []))), (52, (.ireturn, (53, [])))]
abbrev m_Fp_guests : zM := (yX6_guests, (cX6_guests, (2, (some .int, (5, 107)))))
set_option maxRecDepth 20000 in
theorem tk_Fp_guests : tb_Fp_guests.all (z_ent m_Fp_guests.2.1 m_Fp_guests.2.2.1) = true := by decide +kernel
theorem yv_Fp_guests : z_yV m_Fp_guests 0 6 := ⟨⟨⟨by decide +kernel, by decide +kernel, by decide +kernel⟩, z_mem 49 (by decide +kernel) (by decide +kernel), z_mem 378 (by decide +kernel) (by decide +kernel)⟩, z_mem 376 (by decide +kernel) (by decide +kernel), z_mem 377 (by decide +kernel) (by decide +kernel), TX6, 7, rfl⟩
def tb_Fp_count : List (Nat × zI) := [(0, (.iload_n 1, (1, [1]))), (1, (.tableswitch 75 0 3 #[31, 42, 53, 64], (32, [76, 32, 43, 54, 65]))), (32, (.aload_n 0, (33, [0]))), (33, (.getfield 12, (36, []))), (36, (.getfield 66, (39, []))), (39, (.invokevirtual 69, (42, []))), (42, (.ireturn, (43, []))), (43, (.aload_n 0, (44, [0]))), (44, (.getfield 12, (47, []))), (47, (.getfield 55, (50, []))), (50, (.invokevirtual 145, (53, []))), (53, (.ireturn, (54, []))), (54, (.aload_n 0, (55, [0]))), (55, (.getfield 12, (58, []))), (58, (.getfield 55, (61, []))), (61, (.invokevirtual 88, (64, []))), (64, (.ireturn, (65, []))), (65, (.aload_n 0, (66, [0]))), (66, (.getfield 12, (69, []))), (69, (.getfield 136, (72, []))), (72, (.invokevirtual 148, (75, []))), (75, (.ireturn, (76, []))), (76, (.iconst (-1), (77, []))), (77, (.ireturn, (78, [])))]
abbrev m_Fp_count : zM := (yX6_count, (cX6_count, (2, (some .int, (1, 22)))))
set_option maxRecDepth 20000 in
theorem tk_Fp_count : tb_Fp_count.all (z_ent m_Fp_count.2.1 m_Fp_count.2.2.1) = true := by decide +kernel
theorem yv_Fp_count : z_yV m_Fp_count 1 6 := ⟨⟨⟨by decide +kernel, by decide +kernel, by decide +kernel⟩, z_mem 49 (by decide +kernel) (by decide +kernel), z_mem 411 (by decide +kernel) (by decide +kernel)⟩, z_mem 409 (by decide +kernel) (by decide +kernel), z_mem 410 (by decide +kernel) (by decide +kernel), TX6, 7, rfl⟩
def tb_Fp_pay : List (Nat × zI) := [(0, (.iload_n 1, (1, [1]))), (1, (.invokestatic 51, (4, []))), (4, (.ifCond .ne 5, (7, [9]))), (7, (.iconst (-1), (8, []))), (8, (.ireturn, (9, []))), (9, (.aload_n 0, (10, [0]))), (10, (.getfield 12, (13, []))), (13, (.getfield 66, (16, []))), (16, (.invokevirtual 69, (19, []))), (19, (.ifCond .ne 6, (22, [25]))), (22, (.bipush (-4), (24, []))), (24, (.ireturn, (25, []))), (25, (.aload_n 0, (26, [0]))), (26, (.getfield 12, (29, []))), (29, (.getfield 66, (32, []))), (32, (.iload_n 1, (33, [1]))), (33, (.invokevirtual 149, (36, []))), (36, (.ireturn, (37, [])))]
abbrev m_Fp_pay : zM := (yX6_pay, (cX6_pay, (2, (some .int, (4, 94)))))
set_option maxRecDepth 20000 in
theorem tk_Fp_pay : tb_Fp_pay.all (z_ent m_Fp_pay.2.1 m_Fp_pay.2.2.1) = true := by decide +kernel
theorem yv_Fp_pay : z_yV m_Fp_pay 1 6 := ⟨⟨⟨by decide +kernel, by decide +kernel, by decide +kernel⟩, z_mem 49 (by decide +kernel) (by decide +kernel), z_mem 423 (by decide +kernel) (by decide +kernel)⟩, z_mem 421 (by decide +kernel) (by decide +kernel), z_mem 422 (by decide +kernel) (by decide +kernel), TX6, 7, rfl⟩
def tb_Fp_pays : List (Nat × zI) := [(0, (.aload_n 0, (1, [0]))), (1, (.getfield 12, (4, []))), (4, (.getfield 66, (7, []))), (7, (.iload_n 1, (8, [1]))), (8, (.invokevirtual 76, (11, []))), (11, (.ifCond .eq 17, (14, [28]))), (14, (.iload_n 2, (15, [2]))), (15, (.invokestatic 51, (18, []))), (18, (.ifCond .eq 10, (21, [28]))), (21, (.iload_n 3, (22, [3]))), (22, (.invokestatic 152, (25, []))), (25, (.ifCond .ne 5, (28, [30]))), (28, (.iconst (-1), (29, []))), (29, (.ireturn, (30, []))), (30, (.aload_n 0, (31, [0]))), (31, (.getfield 12, (34, []))), (34, (.getfield 66, (37, []))), (37, (.iload_n 1, (38, [1]))), (38, (.iload_n 2, (39, [2]))), (39, (.invokevirtual 155, (42, []))), (42, (.i2l, (43, []))), (43, (.ldc2_w 158, (46, []))), (46, (.iload_n 3, (47, [3]))), (47, (.invokestatic 160, (50, []))), (50, (.l2i, (51, []))), (51, (.ireturn, (52, [])))]
abbrev m_Fp_pays : zM := (yX6_pays, (cX6_pays, (4, (some .int, (4, 92)))))
set_option maxRecDepth 20000 in
theorem tk_Fp_pays : tb_Fp_pays.all (z_ent m_Fp_pays.2.1 m_Fp_pays.2.2.1) = true := by decide +kernel
theorem yv_Fp_pays : z_yV m_Fp_pays 3 6 := ⟨⟨⟨by decide +kernel, by decide +kernel, by decide +kernel⟩, z_mem 49 (by decide +kernel) (by decide +kernel), z_mem 454 (by decide +kernel) (by decide +kernel)⟩, z_mem 452 (by decide +kernel) (by decide +kernel), z_mem 453 (by decide +kernel) (by decide +kernel), TX6, 7, rfl⟩
def tb_Fp_mean : List (Nat × zI) := [(0, (.aload_n 0, (1, [0]))), (1, (.getfield 12, (4, []))), (4, (.getfield 66, (7, []))), (7, (.iload_n 1, (8, [1]))), (8, (.invokevirtual 76, (11, []))), (11, (.ifCond .eq 10, (14, [21]))), (14, (.iload_n 2, (15, [2]))), (15, (.invokestatic 152, (18, []))), (18, (.ifCond .ne 7, (21, [25]))), (21, (.ldc2_w 164, (24, []))), (24, (.lreturn, (25, []))), (25, (.aload_n 0, (26, [0]))), (26, (.getfield 12, (29, []))), (29, (.getfield 55, (32, []))), (32, (.invokevirtual 88, (35, []))), (35, (.istore_n 3, (36, [3]))), (36, (.iload_n 3, (37, [3]))), (37, (.ifCond .ne 7, (40, [44]))), (40, (.ldc2_w 166, (43, []))), (43, (.lreturn, (44, []))), (44, (.aload_n 0, (45, [0]))), (45, (.getfield 12, (48, []))), (48, (.iload_n 1, (49, [1]))), (49, (.invokevirtual 168, (52, []))), (52, (.ldc2_w 158, (55, []))), (55, (.iload_n 3, (56, [3]))), (56, (.i2l, (57, []))), (57, (.lmul, (58, []))), (58, (.iload_n 2, (59, [2]))), (59, (.invokestatic 160, (62, []))), (62, (.lreturn, (63, [])))]
abbrev m_Fp_mean : zM := (yX6_mean, (cX6_mean, (4, (some .long, (4, 96)))))
set_option maxRecDepth 20000 in
theorem tk_Fp_mean : tb_Fp_mean.all (z_ent m_Fp_mean.2.1 m_Fp_mean.2.2.1) = true := by decide +kernel
theorem yv_Fp_mean : z_yV m_Fp_mean 2 6 := ⟨⟨⟨by decide +kernel, by decide +kernel, by decide +kernel⟩, z_mem 49 (by decide +kernel) (by decide +kernel), z_mem 469 (by decide +kernel) (by decide +kernel)⟩, z_mem 467 (by decide +kernel) (by decide +kernel), z_mem 468 (by decide +kernel) (by decide +kernel), TX6, 7, rfl⟩
def tb_Fp_best : List (Nat × zI) := [(0, (.aload_n 0, (1, [0]))), (1, (.getfield 12, (4, []))), (4, (.getfield 66, (7, []))), (7, (.iload_n 1, (8, [1]))), (8, (.invokevirtual 76, (11, []))), (11, (.ifCond .ne 5, (14, [16]))), (14, (.iconst (-1), (15, []))), (15, (.ireturn, (16, []))), (16, (.aload_n 0, (17, [0]))), (17, (.getfield 12, (20, []))), (20, (.getfield 55, (23, []))), (23, (.invokevirtual 88, (26, []))), (26, (.ifCond .ne 8, (29, [34]))), (29, (.bipush (-2), (31, []))), (31, (.goto 11, (34, [42]))), (34, (.aload_n 0, (35, [0]))), (35, (.getfield 12, (38, []))), (38, (.iload_n 1, (39, [1]))), (39, (.invokevirtual 172, (42, []))), (42, (.ireturn, (43, [])))]
abbrev m_Fp_best : zM := (yX6_best, (cX6_best, (2, (some .int, (5, 124)))))
set_option maxRecDepth 20000 in
theorem tk_Fp_best : tb_Fp_best.all (z_ent m_Fp_best.2.1 m_Fp_best.2.2.1) = true := by decide +kernel
theorem yv_Fp_best : z_yV m_Fp_best 1 6 := ⟨⟨⟨by decide +kernel, by decide +kernel, by decide +kernel⟩, z_mem 49 (by decide +kernel) (by decide +kernel), z_mem 482 (by decide +kernel) (by decide +kernel)⟩, z_mem 480 (by decide +kernel) (by decide +kernel), z_mem 481 (by decide +kernel) (by decide +kernel), TX6, 7, rfl⟩
def tb_Fp_still : List (Nat × zI) := [(0, (.aload_n 0, (1, [0]))), (1, (.getfield 12, (4, []))), (4, (.getfield 55, (7, []))), (7, (.invokevirtual 88, (10, []))), (10, (.ifCond .ne 6, (13, [16]))), (13, (.bipush (-2), (15, []))), (15, (.ireturn, (16, []))), (16, (.aload_n 0, (17, [0]))), (17, (.getfield 12, (20, []))), (20, (.invokevirtual 175, (23, []))), (23, (.ifCond .eq 7, (26, [30]))), (26, (.iconst 1, (27, []))), (27, (.goto 4, (30, [31]))), (30, (.iconst 0, (31, []))), (31, (.ireturn, (32, [])))]
abbrev m_Fp_still : zM := (yX6_still, (cX6_still, (1, (some .int, (7, 168)))))
set_option maxRecDepth 20000 in
theorem tk_Fp_still : tb_Fp_still.all (z_ent m_Fp_still.2.1 m_Fp_still.2.2.1) = true := by decide +kernel
theorem yv_Fp_still : z_yV m_Fp_still 0 6 := ⟨⟨⟨by decide +kernel, by decide +kernel, by decide +kernel⟩, z_mem 49 (by decide +kernel) (by decide +kernel), z_mem 499 (by decide +kernel) (by decide +kernel)⟩, z_mem 497 (by decide +kernel) (by decide +kernel), z_mem 498 (by decide +kernel) (by decide +kernel), TX6, 7, rfl⟩
def tb_Fp_turns : List (Nat × zI) := [(0, (.iload_n 1, (1, [1]))), (1, (.iconst 1, (2, []))), (2, (.if_icmp .lt 9, (5, [11]))), (5, (.iload_n 1, (6, [1]))), (6, (.bipush 40, (8, []))), (8, (.if_icmp .le 5, (11, [13]))), (11, (.iconst (-1), (12, []))), (12, (.ireturn, (13, []))), (13, (.aload_n 0, (14, [0]))), (14, (.getfield 12, (17, []))), (17, (.getfield 55, (20, []))), (20, (.invokevirtual 88, (23, []))), (23, (.ifCond .ne 8, (26, [31]))), (26, (.bipush (-2), (28, []))), (28, (.goto 11, (31, [39]))), (31, (.aload_n 0, (32, [0]))), (32, (.getfield 12, (35, []))), (35, (.iload_n 1, (36, [1]))), (36, (.invokevirtual 179, (39, []))), (39, (.ireturn, (40, [])))]
abbrev m_Fp_turns : zM := (yX6_turns, (cX6_turns, (2, (some .int, (7, 173)))))
set_option maxRecDepth 20000 in
theorem tk_Fp_turns : tb_Fp_turns.all (z_ent m_Fp_turns.2.1 m_Fp_turns.2.2.1) = true := by decide +kernel
theorem yv_Fp_turns : z_yV m_Fp_turns 1 6 := ⟨⟨⟨by decide +kernel, by decide +kernel, by decide +kernel⟩, z_mem 49 (by decide +kernel) (by decide +kernel), z_mem 518 (by decide +kernel) (by decide +kernel)⟩, z_mem 516 (by decide +kernel) (by decide +kernel), z_mem 517 (by decide +kernel) (by decide +kernel), TX6, 7, rfl⟩
def tb_Fp_league : List (Nat × zI) := [(0, (.aload_n 0, (1, [0]))), (1, (.iload_n 1, (2, [1]))), (2, (.iload_n 2, (3, [2]))), (3, (.iload_n 3, (4, [3]))), (4, (.invokevirtual 182, (7, []))), (7, (.ifCond .eq 14, (10, [21]))), (10, (.iload 4, (12, [4]))), (12, (.ifCond .lt 9, (15, [21]))), (15, (.iload 4, (17, [4]))), (17, (.iconst 1, (18, []))), (18, (.if_icmp .le 5, (21, [23]))), (21, (.iconst (-1), (22, []))), (22, (.ireturn, (23, []))), (23, (.aload_n 0, (24, [0]))), (24, (.getfield 12, (27, []))), (27, (.getfield 55, (30, []))), (30, (.invokevirtual 88, (33, []))), (33, (.ifCond .ne 6, (36, [39]))), (36, (.bipush (-2), (38, []))), (38, (.ireturn, (39, []))), (39, (.aload_n 0, (40, [0]))), (40, (.getfield 12, (43, []))), (43, (.iload_n 1, (44, [1]))), (44, (.iload_n 2, (45, [2]))), (45, (.iload_n 3, (46, [3]))), (46, (.aload_n 0, (47, [0]))), (47, (.getfield 12, (50, []))), (50, (.invokevirtual 186, (53, []))), (53, (.invokevirtual 190, (56, []))), (56, (.istore 5, (58, [5]))), (58, (.iload 4, (60, [4]))), (60, (.ifCond .ne 11, (63, [71]))), (63, (.iload 5, (65, [5]))), (65, (.bipush 21, (67, []))), (67, (.idiv, (68, []))), (68, (.goto 8, (71, [76]))), (71, (.iload 5, (73, [5]))), (73, (.bipush 21, (75, []))), (75, (.irem, (76, []))), (76, (.ireturn, (77, [])))]
abbrev m_Fp_league : zM := (yX6_league, (cX6_league, (6, (some .int, (5, 129)))))
set_option maxRecDepth 20000 in
theorem tk_Fp_league : tb_Fp_league.all (z_ent m_Fp_league.2.1 m_Fp_league.2.2.1) = true := by decide +kernel
theorem yv_Fp_league : z_yV m_Fp_league 4 6 := ⟨⟨⟨by decide +kernel, by decide +kernel, by decide +kernel⟩, z_mem 49 (by decide +kernel) (by decide +kernel), z_mem 526 (by decide +kernel) (by decide +kernel)⟩, z_mem 524 (by decide +kernel) (by decide +kernel), z_mem 525 (by decide +kernel) (by decide +kernel), TX6, 7, rfl⟩
def tb_Fp_shun : List (Nat × zI) := [(0, (.aload_n 0, (1, [0]))), (1, (.iload_n 1, (2, [1]))), (2, (.iload_n 2, (3, [2]))), (3, (.iload_n 3, (4, [3]))), (4, (.invokevirtual 182, (7, []))), (7, (.ifCond .ne 5, (10, [12]))), (10, (.iconst (-1), (11, []))), (11, (.ireturn, (12, []))), (12, (.aload_n 0, (13, [0]))), (13, (.getfield 12, (16, []))), (16, (.getfield 55, (19, []))), (19, (.invokevirtual 88, (22, []))), (22, (.ifCond .ne 8, (25, [30]))), (25, (.bipush (-2), (27, []))), (27, (.goto 13, (30, [40]))), (30, (.aload_n 0, (31, [0]))), (31, (.getfield 12, (34, []))), (34, (.iload_n 1, (35, [1]))), (35, (.iload_n 2, (36, [2]))), (36, (.iload_n 3, (37, [3]))), (37, (.invokevirtual 194, (40, []))), (40, (.ireturn, (41, [])))]
abbrev m_Fp_shun : zM := (yX6_shun, (cX6_shun, (4, (some .int, (6, 159)))))
set_option maxRecDepth 20000 in
theorem tk_Fp_shun : tb_Fp_shun.all (z_ent m_Fp_shun.2.1 m_Fp_shun.2.2.1) = true := by decide +kernel
theorem yv_Fp_shun : z_yV m_Fp_shun 3 6 := ⟨⟨⟨by decide +kernel, by decide +kernel, by decide +kernel⟩, z_mem 49 (by decide +kernel) (by decide +kernel), z_mem 544 (by decide +kernel) (by decide +kernel)⟩, z_mem 542 (by decide +kernel) (by decide +kernel), z_mem 543 (by decide +kernel) (by decide +kernel), TX6, 7, rfl⟩
def tb_Fp_host : List (Nat × zI) := [(0, (.iload_n 1, (1, [1]))), (1, (.invokestatic 198, (4, []))), (4, (.ifCond .eq 17, (7, [21]))), (7, (.aload_n 0, (8, [0]))), (8, (.getfield 12, (11, []))), (11, (.getfield 66, (14, []))), (14, (.iload_n 2, (15, [2]))), (15, (.invokevirtual 76, (18, []))), (18, (.ifCond .ne 5, (21, [23]))), (21, (.iconst (-1), (22, []))), (22, (.ireturn, (23, []))), (23, (.iconst (-1), (24, []))), (24, (.istore_n 3, (25, [3]))), (25, (.iconst (-1), (26, []))), (26, (.istore 4, (28, [4]))), (28, (.iconst 0, (29, []))), (29, (.istore 5, (31, [5]))), (31, (.iload 5, (33, [5]))), (33, (.bipush 21, (35, []))), (35, (.if_icmp .ge 55, (38, [90]))), (38, (.iload_n 1, (39, [1]))), (39, (.iload 5, (41, [5]))), (41, (.ishr, (42, []))), (42, (.iconst 1, (43, []))), (43, (.iand, (44, []))), (44, (.iconst 1, (45, []))), (45, (.if_icmp .ne 39, (48, [84]))), (48, (.aload_n 0, (49, [0]))), (49, (.getfield 12, (52, []))), (52, (.getfield 66, (55, []))), (55, (.iload_n 2, (56, [2]))), (56, (.iload 5, (58, [5]))), (58, (.invokevirtual 155, (61, []))), (61, (.iload 4, (63, [4]))), (63, (.if_icmp .le 21, (66, [84]))), (66, (.iload 5, (68, [5]))), (68, (.istore_n 3, (69, [3]))), (69, (.aload_n 0, (70, [0]))), (70, (.getfield 12, (73, []))), (73, (.getfield 66, (76, []))), (76, (.iload_n 2, (77, [2]))), (77, (.iload 5, (79, [5]))), (79, (.invokevirtual 155, (82, []))), (82, (.istore 4, (84, [4]))), (84, (.iinc 5 1, (87, [5]))), (87, (.goto (-56), (90, [31]))), (90, (.iload_n 3, (91, [3]))), (91, (.ireturn, (92, [])))]
abbrev m_Fp_host : zM := (yX6_host, (cX6_host, (6, (some .int, (4, 92)))))
set_option maxRecDepth 20000 in
theorem tk_Fp_host : tb_Fp_host.all (z_ent m_Fp_host.2.1 m_Fp_host.2.2.1) = true := by decide +kernel
theorem yv_Fp_host : z_yV m_Fp_host 2 6 := ⟨⟨⟨by decide +kernel, by decide +kernel, by decide +kernel⟩, z_mem 49 (by decide +kernel) (by decide +kernel), z_mem 557 (by decide +kernel) (by decide +kernel)⟩, z_mem 555 (by decide +kernel) (by decide +kernel), z_mem 556 (by decide +kernel) (by decide +kernel), TX6, 7, rfl⟩
def tb_Fp_choice : List (Nat × zI) := [(0, (.iload_n 1, (1, [1]))), (1, (.invokestatic 198, (4, []))), (4, (.ifCond .ne 5, (7, [9]))), (7, (.iconst (-1), (8, []))), (8, (.ireturn, (9, []))), (9, (.iconst 0, (10, []))), (10, (.istore_n 2, (11, [2]))), (11, (.iconst 1, (12, []))), (12, (.istore_n 3, (13, [3]))), (13, (.iload_n 3, (14, [3]))), (14, (.bipush 21, (16, []))), (16, (.if_icmp .ge 32, (19, [48]))), (19, (.iload_n 1, (20, [1]))), (20, (.iload_n 3, (21, [3]))), (21, (.ishr, (22, []))), (22, (.iconst 1, (23, []))), (23, (.iand, (24, []))), (24, (.iconst 1, (25, []))), (25, (.if_icmp .ne 17, (28, [42]))), (28, (.iload_n 2, (29, [2]))), (29, (.aload_n 0, (30, [0]))), (30, (.getfield 12, (33, []))), (33, (.getfield 66, (36, []))), (36, (.iload_n 3, (37, [3]))), (37, (.invokevirtual 149, (40, []))), (40, (.ior, (41, []))), (41, (.istore_n 2, (42, [2]))), (42, (.iinc 3 1, (45, [3]))), (45, (.goto (-32), (48, [13]))), (48, (.iload_n 2, (49, [2]))), (49, (.invokestatic 201, (52, []))), (52, (.ireturn, (53, [])))]
abbrev m_Fp_choice : zM := (yX6_choice, (cX6_choice, (4, (some .int, (4, 94)))))
set_option maxRecDepth 20000 in
theorem tk_Fp_choice : tb_Fp_choice.all (z_ent m_Fp_choice.2.1 m_Fp_choice.2.2.1) = true := by decide +kernel
theorem yv_Fp_choice : z_yV m_Fp_choice 1 6 := ⟨⟨⟨by decide +kernel, by decide +kernel, by decide +kernel⟩, z_mem 49 (by decide +kernel) (by decide +kernel), z_mem 565 (by decide +kernel) (by decide +kernel)⟩, z_mem 563 (by decide +kernel) (by decide +kernel), z_mem 564 (by decide +kernel) (by decide +kernel), TX6, 7, rfl⟩
def tb_Fp_night : List (Nat × zI) := [(0, (.iload_n 1, (1, [1]))), (1, (.invokestatic 51, (4, []))), (4, (.ifCond .ne 5, (7, [9]))), (7, (.iconst (-1), (8, []))), (8, (.ireturn, (9, []))), (9, (.aload_n 0, (10, [0]))), (10, (.getfield 12, (13, []))), (13, (.getfield 136, (16, []))), (16, (.invokevirtual 148, (19, []))), (19, (.bipush 12, (21, []))), (21, (.if_icmp .lt 6, (24, [27]))), (24, (.bipush (-3), (26, []))), (26, (.ireturn, (27, []))), (27, (.aload_n 0, (28, [0]))), (28, (.getfield 12, (31, []))), (31, (.getfield 66, (34, []))), (34, (.invokevirtual 69, (37, []))), (37, (.ifCond .ne 6, (40, [43]))), (40, (.bipush (-2), (42, []))), (42, (.ireturn, (43, []))), (43, (.aload_n 0, (44, [0]))), (44, (.getfield 12, (47, []))), (47, (.getfield 136, (50, []))), (50, (.iload_n 1, (51, [1]))), (51, (.aload_n 0, (52, [0]))), (52, (.getfield 12, (55, []))), (55, (.getfield 66, (58, []))), (58, (.invokevirtual 206, (61, []))), (61, (.aload_n 0, (62, [0]))), (62, (.getfield 12, (65, []))), (65, (.getfield 136, (68, []))), (68, (.invokevirtual 148, (71, []))), (71, (.iconst 1, (72, []))), (72, (.isub, (73, []))), (73, (.ireturn, (74, [])))]
abbrev m_Fp_night : zM := (yX6_night, (cX6_night, (2, (some .int, (4, 124)))))
set_option maxRecDepth 20000 in
theorem tk_Fp_night : tb_Fp_night.all (z_ent m_Fp_night.2.1 m_Fp_night.2.2.1) = true := by decide +kernel
theorem yv_Fp_night : z_yV m_Fp_night 1 6 := ⟨⟨⟨by decide +kernel, by decide +kernel, by decide +kernel⟩, z_mem 49 (by decide +kernel) (by decide +kernel), z_mem 575 (by decide +kernel) (by decide +kernel)⟩, z_mem 573 (by decide +kernel) (by decide +kernel), z_mem 574 (by decide +kernel) (by decide +kernel), TX6, 7, rfl⟩
def tb_Fp_knew : List (Nat × zI) := [(0, (.aload_n 0, (1, [0]))), (1, (.getfield 12, (4, []))), (4, (.getfield 136, (7, []))), (7, (.invokevirtual 209, (10, []))), (10, (.ireturn, (11, [])))]
abbrev m_Fp_knew : zM := (yX6_knew, (cX6_knew, (1, (some .int, (4, 86)))))
set_option maxRecDepth 20000 in
theorem tk_Fp_knew : tb_Fp_knew.all (z_ent m_Fp_knew.2.1 m_Fp_knew.2.2.1) = true := by decide +kernel
theorem yv_Fp_knew : z_yV m_Fp_knew 0 6 := ⟨⟨⟨by decide +kernel, by decide +kernel, by decide +kernel⟩, z_mem 49 (by decide +kernel) (by decide +kernel), z_mem 588 (by decide +kernel) (by decide +kernel)⟩, z_mem 586 (by decide +kernel) (by decide +kernel), z_mem 587 (by decide +kernel) (by decide +kernel), TX6, 7, rfl⟩
def tb_Fp_leagues : List (Nat × zI) := [(0, (.aload_n 0, (1, [0]))), (1, (.getfield 12, (4, []))), (4, (.getfield 66, (7, []))), (7, (.iload_n 1, (8, [1]))), (8, (.invokevirtual 76, (11, []))), (11, (.ifCond .eq 12, (14, [23]))), (14, (.iload_n 2, (15, [2]))), (15, (.ifCond .lt 8, (18, [23]))), (18, (.iload_n 2, (19, [2]))), (19, (.iconst 1, (20, []))), (20, (.if_icmp .le 5, (23, [25]))), (23, (.iconst (-1), (24, []))), (24, (.ireturn, (25, []))), (25, (.iload_n 2, (26, [2]))), (26, (.ifCond .ne 15, (29, [41]))), (29, (.aload_n 0, (30, [0]))), (30, (.getfield 12, (33, []))), (33, (.getfield 136, (36, []))), (36, (.iload_n 1, (37, [1]))), (37, (.invokevirtual 212, (40, []))), (40, (.ireturn, (41, []))), (41, (.aload_n 0, (42, [0]))), (42, (.getfield 12, (45, []))), (45, (.getfield 136, (48, []))), (48, (.iload_n 1, (49, [1]))), (49, (.invokevirtual 215, (52, []))), (52, (.istore_n 3, (53, [3]))), (53, (.iload_n 3, (54, [3]))), (54, (.ifCond .ge 8, (57, [62]))), (57, (.bipush (-4), (59, []))), (59, (.goto 4, (62, [63]))), (62, (.iload_n 3, (63, [3]))), (63, (.ireturn, (64, [])))]
abbrev m_Fp_leagues : zM := (yX6_leagues, (cX6_leagues, (4, (some .int, (5, 117)))))
set_option maxRecDepth 20000 in
theorem tk_Fp_leagues : tb_Fp_leagues.all (z_ent m_Fp_leagues.2.1 m_Fp_leagues.2.2.1) = true := by decide +kernel
theorem yv_Fp_leagues : z_yV m_Fp_leagues 2 6 := ⟨⟨⟨by decide +kernel, by decide +kernel, by decide +kernel⟩, z_mem 49 (by decide +kernel) (by decide +kernel), z_mem 602 (by decide +kernel) (by decide +kernel)⟩, z_mem 600 (by decide +kernel) (by decide +kernel), z_mem 601 (by decide +kernel) (by decide +kernel), TX6, 7, rfl⟩
def tb_Fp_forget : List (Nat × zI) := [(0, (.aload_n 0, (1, [0]))), (1, (.getfield 12, (4, []))), (4, (.getfield 136, (7, []))), (7, (.invokevirtual 148, (10, []))), (10, (.istore_n 1, (11, [1]))), (11, (.aload_n 0, (12, [0]))), (12, (.getfield 12, (15, []))), (15, (.getfield 136, (18, []))), (18, (.invokevirtual 140, (21, []))), (21, (.iload_n 1, (22, [1]))), (22, (.ireturn, (23, [])))]
abbrev m_Fp_forget : zM := (yX6_forget, (cX6_forget, (2, (some .int, (1, 20)))))
set_option maxRecDepth 20000 in
theorem tk_Fp_forget : tb_Fp_forget.all (z_ent m_Fp_forget.2.1 m_Fp_forget.2.2.1) = true := by decide +kernel
theorem yv_Fp_forget : z_yV m_Fp_forget 0 6 := ⟨⟨⟨by decide +kernel, by decide +kernel, by decide +kernel⟩, z_mem 49 (by decide +kernel) (by decide +kernel), z_mem 628 (by decide +kernel) (by decide +kernel)⟩, z_mem 626 (by decide +kernel) (by decide +kernel), z_mem 627 (by decide +kernel) (by decide +kernel), TX6, 7, rfl⟩
def tb_Fp_image : List (Nat × zI) := [(0, (.aload_n 0, (1, [0]))), (1, (.getfield 16, (4, []))), (4, (.aload_n 0, (5, [0]))), (5, (.getfield 12, (8, []))), (8, (.invokevirtual 218, (11, []))), (11, (.aload_n 0, (12, [0]))), (12, (.iconst 1, (13, []))), (13, (.putfield 19, (16, []))), (16, (.iconst 1, (17, []))), (17, (.ireturn, (18, [])))]
abbrev m_Fp_image : zM := (yX6_image, (cX6_image, (1, (some .int, (5, 145)))))
set_option maxRecDepth 20000 in
theorem tk_Fp_image : tb_Fp_image.all (z_ent m_Fp_image.2.1 m_Fp_image.2.2.1) = true := by decide +kernel
theorem yv_Fp_image : z_yV m_Fp_image 0 6 := ⟨⟨⟨by decide +kernel, by decide +kernel, by decide +kernel⟩, z_mem 49 (by decide +kernel) (by decide +kernel), z_mem 632 (by decide +kernel) (by decide +kernel)⟩, z_mem 630 (by decide +kernel) (by decide +kernel), z_mem 631 (by decide +kernel) (by decide +kernel), TX6, 7, rfl⟩
def tb_Fp_restore : List (Nat × zI) := [(0, (.aload_n 0, (1, [0]))), (1, (.getfield 19, (4, []))), (4, (.ifCond .ne 6, (7, [10]))), (7, (.bipush (-4), (9, []))), (9, (.ireturn, (10, []))), (10, (.aload_n 0, (11, [0]))), (11, (.getfield 12, (14, []))), (14, (.aload_n 0, (15, [0]))), (15, (.getfield 16, (18, []))), (18, (.invokevirtual 218, (21, []))), (21, (.iconst 1, (22, []))), (22, (.ireturn, (23, [])))]
abbrev m_Fp_restore : zM := (yX6_restore, (cX6_restore, (1, (some .int, (5, 145)))))
set_option maxRecDepth 20000 in
theorem tk_Fp_restore : tb_Fp_restore.all (z_ent m_Fp_restore.2.1 m_Fp_restore.2.2.1) = true := by decide +kernel
theorem yv_Fp_restore : z_yV m_Fp_restore 0 6 := ⟨⟨⟨by decide +kernel, by decide +kernel, by decide +kernel⟩, z_mem 49 (by decide +kernel) (by decide +kernel), z_mem 646 (by decide +kernel) (by decide +kernel)⟩, z_mem 644 (by decide +kernel) (by decide +kernel), z_mem 645 (by decide +kernel) (by decide +kernel), TX6, 7, rfl⟩
def tb_Fp_mixed : List (Nat × zI) := [(0, (.aload_n 0, (1, [0]))), (1, (.getfield 12, (4, []))), (4, (.getfield 66, (7, []))), (7, (.iload_n 1, (8, [1]))), (8, (.invokevirtual 76, (11, []))), (11, (.ifCond .eq 38, (14, [49]))), (14, (.iload_n 2, (15, [2]))), (15, (.invokestatic 221, (18, []))), (18, (.ifCond .eq 31, (21, [49]))), (21, (.iload_n 3, (22, [3]))), (22, (.invokestatic 224, (25, []))), (25, (.ifCond .eq 24, (28, [49]))), (28, (.iload 5, (30, [5]))), (30, (.iconst 1, (31, []))), (31, (.if_icmp .lt 18, (34, [49]))), (34, (.iload 5, (36, [5]))), (36, (.bipush 21, (38, []))), (38, (.if_icmp .gt 11, (41, [49]))), (41, (.iload 6, (43, [6]))), (43, (.invokestatic 152, (46, []))), (46, (.ifCond .ne 7, (49, [53]))), (49, (.ldc2_w 164, (52, []))), (52, (.lreturn, (53, []))), (53, (.aload_n 0, (54, [0]))), (54, (.getfield 46, (57, []))), (57, (.iload_n 2, (58, [2]))), (58, (.aaload, (59, []))), (59, (.astore 7, (61, [7]))), (61, (.aload 7, (63, [7]))), (63, (.iload_n 3, (64, [3]))), (64, (.iload 4, (66, [4]))), (66, (.iload 5, (68, [5]))), (68, (.invokevirtual 227, (71, []))), (71, (.istore 8, (73, [8]))), (73, (.iload 8, (75, [8]))), (75, (.ifCond .eq 7, (78, [82]))), (78, (.iload 8, (80, [8]))), (80, (.i2l, (81, []))), (81, (.lreturn, (82, []))), (82, (.aload 7, (84, [7]))), (84, (.iload 4, (86, [4]))), (86, (.iload 5, (88, [5]))), (88, (.invokevirtual 230, (91, []))), (91, (.lstore 9, (93, [9]))), (93, (.aload_n 0, (94, [0]))), (94, (.getfield 12, (97, []))), (97, (.getfield 55, (100, []))), (100, (.invokevirtual 88, (103, []))), (103, (.istore 11, (105, [11]))), (105, (.lload 9, (107, [9]))), (107, (.lconst 0, (108, [0]))), (108, (.lcmp, (109, []))), (109, (.ifCond .le 8, (112, [117]))), (112, (.iload 11, (114, [11]))), (114, (.ifCond .ne 7, (117, [121]))), (117, (.ldc2_w 166, (120, []))), (120, (.lreturn, (121, []))), (121, (.lconst 0, (122, [0]))), (122, (.lstore 12, (124, [12]))), (124, (.iconst 0, (125, []))), (125, (.istore 14, (127, [14]))), (127, (.iload 14, (129, [14]))), (129, (.iload 5, (131, [5]))), (131, (.if_icmp .ge 46, (134, [177]))), (134, (.aload 7, (136, [7]))), (136, (.iload 4, (138, [4]))), (138, (.iload 14, (140, [14]))), (140, (.iadd, (141, []))), (141, (.invokevirtual 234, (144, []))), (144, (.lstore 15, (146, [15]))), (146, (.lload 15, (148, [15]))), (148, (.lconst 0, (149, [0]))), (149, (.lcmp, (150, []))), (150, (.ifCond .le 21, (153, [171]))), (153, (.lload 12, (155, [12]))), (155, (.lload 15, (157, [15]))), (157, (.aload_n 0, (158, [0]))), (158, (.getfield 12, (161, []))), (161, (.iload_n 1, (162, [1]))), (162, (.iload 14, (164, [14]))), (164, (.invokevirtual 237, (167, []))), (167, (.lmul, (168, []))), (168, (.ladd, (169, []))), (169, (.lstore 12, (171, [12]))), (171, (.iinc 14 1, (174, [14]))), (174, (.goto (-47), (177, [127]))), (177, (.lload 12, (179, [12]))), (179, (.lload 9, (181, [9]))), (181, (.iload 11, (183, [11]))), (183, (.i2l, (184, []))), (184, (.lmul, (185, []))), (185, (.ldc2_w 158, (188, []))), (188, (.lmul, (189, []))), (189, (.iload 6, (191, [6]))), (191, (.invokestatic 160, (194, []))), (194, (.lreturn, (195, [])))]
abbrev m_Fp_mixed : zM := (yX6_mixed, (cX6_mixed, (17, (some .long, (5, 121)))))
set_option maxRecDepth 20000 in
theorem tk_Fp_mixed : tb_Fp_mixed.all (z_ent m_Fp_mixed.2.1 m_Fp_mixed.2.2.1) = true := by decide +kernel
theorem yv_Fp_mixed : z_yV m_Fp_mixed 6 6 := ⟨⟨⟨by decide +kernel, by decide +kernel, by decide +kernel⟩, z_mem 49 (by decide +kernel) (by decide +kernel), z_mem 650 (by decide +kernel) (by decide +kernel)⟩, z_mem 648 (by decide +kernel) (by decide +kernel), z_mem 649 (by decide +kernel) (by decide +kernel), TX6, 7, rfl⟩
def tb_Fp_sheet : List (Nat × zI) := [(0, (.iload_n 1, (1, [1]))), (1, (.invokestatic 221, (4, []))), (4, (.ifCond .eq 16, (7, [20]))), (7, (.iload_n 2, (8, [2]))), (8, (.invokestatic 224, (11, []))), (11, (.ifCond .eq 9, (14, [20]))), (14, (.iload_n 3, (15, [3]))), (15, (.bipush 24, (17, []))), (17, (.if_icmp .le 5, (20, [22]))), (20, (.iconst (-1), (21, []))), (21, (.ireturn, (22, []))), (22, (.iload_n 3, (23, [3]))), (23, (.ifCond .ge 6, (26, [29]))), (26, (.bipush (-14), (28, []))), (28, (.ireturn, (29, []))), (29, (.aload_n 0, (30, [0]))), (30, (.getfield 46, (33, []))), (33, (.iload_n 1, (34, [1]))), (34, (.aaload, (35, []))), (35, (.iload_n 2, (36, [2]))), (36, (.iload_n 3, (37, [3]))), (37, (.invokevirtual 240, (40, []))), (40, (.iload_n 3, (41, [3]))), (41, (.ireturn, (42, [])))]
abbrev m_Fp_sheet : zM := (yX6_sheet, (cX6_sheet, (4, (some .int, (1, 23)))))
set_option maxRecDepth 20000 in
theorem tk_Fp_sheet : tb_Fp_sheet.all (z_ent m_Fp_sheet.2.1 m_Fp_sheet.2.2.1) = true := by decide +kernel
theorem yv_Fp_sheet : z_yV m_Fp_sheet 3 6 := ⟨⟨⟨by decide +kernel, by decide +kernel, by decide +kernel⟩, z_mem 49 (by decide +kernel) (by decide +kernel), z_mem 680 (by decide +kernel) (by decide +kernel)⟩, z_mem 678 (by decide +kernel) (by decide +kernel), z_mem 679 (by decide +kernel) (by decide +kernel), TX6, 7, rfl⟩
def tb_Fp_drop : List (Nat × zI) := [(0, (.iload_n 1, (1, [1]))), (1, (.invokestatic 221, (4, []))), (4, (.ifCond .ne 5, (7, [9]))), (7, (.iconst (-1), (8, []))), (8, (.ireturn, (9, []))), (9, (.aload_n 0, (10, [0]))), (10, (.getfield 46, (13, []))), (13, (.iload_n 1, (14, [1]))), (14, (.aaload, (15, []))), (15, (.astore_n 2, (16, [2]))), (16, (.aload_n 2, (17, [2]))), (17, (.invokevirtual 243, (20, []))), (20, (.ifCond .eq 6, (23, [26]))), (23, (.bipush (-11), (25, []))), (25, (.ireturn, (26, []))), (26, (.aload_n 2, (27, [2]))), (27, (.invokevirtual 246, (30, []))), (30, (.istore_n 3, (31, [3]))), (31, (.aload_n 2, (32, [2]))), (32, (.invokevirtual 247, (35, []))), (35, (.iload_n 3, (36, [3]))), (36, (.ireturn, (37, [])))]
abbrev m_Fp_drop : zM := (yX6_drop, (cX6_drop, (4, (some .int, (1, 20)))))
set_option maxRecDepth 20000 in
theorem tk_Fp_drop : tb_Fp_drop.all (z_ent m_Fp_drop.2.1 m_Fp_drop.2.2.1) = true := by decide +kernel
theorem yv_Fp_drop : z_yV m_Fp_drop 1 6 := ⟨⟨⟨by decide +kernel, by decide +kernel, by decide +kernel⟩, z_mem 49 (by decide +kernel) (by decide +kernel), z_mem 688 (by decide +kernel) (by decide +kernel)⟩, z_mem 686 (by decide +kernel) (by decide +kernel), z_mem 687 (by decide +kernel) (by decide +kernel), TX6, 7, rfl⟩
def tb_Fp_item : List (Nat × zI) := [(0, (.iload_n 1, (1, [1]))), (1, (.invokestatic 221, (4, []))), (4, (.ifCond .eq 10, (7, [14]))), (7, (.iload_n 2, (8, [2]))), (8, (.invokestatic 224, (11, []))), (11, (.ifCond .ne 5, (14, [16]))), (14, (.iconst (-1), (15, []))), (15, (.ireturn, (16, []))), (16, (.aload_n 0, (17, [0]))), (17, (.getfield 46, (20, []))), (20, (.iload_n 1, (21, [1]))), (21, (.aaload, (22, []))), (22, (.iload_n 2, (23, [2]))), (23, (.iload_n 3, (24, [3]))), (24, (.iconst 1, (25, []))), (25, (.invokevirtual 227, (28, []))), (28, (.istore 6, (30, [6]))), (30, (.iload 6, (32, [6]))), (32, (.ifCond .eq 6, (35, [38]))), (35, (.iload 6, (37, [6]))), (37, (.ireturn, (38, []))), (38, (.aload_n 0, (39, [0]))), (39, (.getfield 46, (42, []))), (42, (.iload_n 1, (43, [1]))), (43, (.aaload, (44, []))), (44, (.iload_n 3, (45, [3]))), (45, (.lload 4, (47, [4]))), (47, (.invokevirtual 250, (50, []))), (50, (.iconst 1, (51, []))), (51, (.ireturn, (52, [])))]
abbrev m_Fp_item : zM := (yX6_item, (cX6_item, (7, (some .int, (2, 45)))))
set_option maxRecDepth 20000 in
theorem tk_Fp_item : tb_Fp_item.all (z_ent m_Fp_item.2.1 m_Fp_item.2.2.1) = true := by decide +kernel
theorem yv_Fp_item : z_yV m_Fp_item 4 6 := ⟨⟨⟨by decide +kernel, by decide +kernel, by decide +kernel⟩, z_mem 49 (by decide +kernel) (by decide +kernel), z_mem 701 (by decide +kernel) (by decide +kernel)⟩, z_mem 699 (by decide +kernel) (by decide +kernel), z_mem 700 (by decide +kernel) (by decide +kernel), TX6, 7, rfl⟩
def tb_Fp_film : List (Nat × zI) := [(0, (.iload_n 1, (1, [1]))), (1, (.invokestatic 221, (4, []))), (4, (.ifCond .eq 10, (7, [14]))), (7, (.iload_n 2, (8, [2]))), (8, (.invokestatic 224, (11, []))), (11, (.ifCond .ne 5, (14, [16]))), (14, (.iconst (-1), (15, []))), (15, (.ireturn, (16, []))), (16, (.aload_n 0, (17, [0]))), (17, (.getfield 12, (20, []))), (20, (.getfield 66, (23, []))), (23, (.invokevirtual 69, (26, []))), (26, (.istore 4, (28, [4]))), (28, (.aload_n 0, (29, [0]))), (29, (.getfield 46, (32, []))), (32, (.iload_n 1, (33, [1]))), (33, (.aaload, (34, []))), (34, (.iload_n 2, (35, [2]))), (35, (.iload_n 3, (36, [3]))), (36, (.iload 4, (38, [4]))), (38, (.invokevirtual 227, (41, []))), (41, (.istore 5, (43, [5]))), (43, (.iload 5, (45, [5]))), (45, (.ifCond .eq 6, (48, [51]))), (48, (.iload 5, (50, [5]))), (50, (.ireturn, (51, []))), (51, (.iconst 0, (52, []))), (52, (.istore 6, (54, [6]))), (54, (.iload 6, (56, [6]))), (56, (.iload 4, (58, [4]))), (58, (.if_icmp .ge 35, (61, [93]))), (61, (.aload_n 0, (62, [0]))), (62, (.getfield 46, (65, []))), (65, (.iload_n 1, (66, [1]))), (66, (.aaload, (67, []))), (67, (.iload_n 3, (68, [3]))), (68, (.iload 6, (70, [6]))), (70, (.iadd, (71, []))), (71, (.aload_n 0, (72, [0]))), (72, (.getfield 12, (75, []))), (75, (.getfield 66, (78, []))), (78, (.iload 6, (80, [6]))), (80, (.invokevirtual 82, (83, []))), (83, (.i2l, (84, []))), (84, (.invokevirtual 250, (87, []))), (87, (.iinc 6 1, (90, [6]))), (90, (.goto (-36), (93, [54]))), (93, (.iload 4, (95, [4]))), (95, (.ireturn, (96, [])))]
abbrev m_Fp_film : zM := (yX6_film, (cX6_film, (7, (some .int, (2, 45)))))
set_option maxRecDepth 20000 in
theorem tk_Fp_film : tb_Fp_film.all (z_ent m_Fp_film.2.1 m_Fp_film.2.2.1) = true := by decide +kernel
theorem yv_Fp_film : z_yV m_Fp_film 3 6 := ⟨⟨⟨by decide +kernel, by decide +kernel, by decide +kernel⟩, z_mem 49 (by decide +kernel) (by decide +kernel), z_mem 713 (by decide +kernel) (by decide +kernel)⟩, z_mem 711 (by decide +kernel) (by decide +kernel), z_mem 712 (by decide +kernel) (by decide +kernel), TX6, 7, rfl⟩
def tb_Fp_isSum : List (Nat × zI) := [(0, (.iload_n 0, (1, [0]))), (1, (.ifCond .lt 13, (4, [14]))), (4, (.iload_n 0, (5, [0]))), (5, (.bipush 21, (7, []))), (7, (.if_icmp .ge 7, (10, [14]))), (10, (.iconst 1, (11, []))), (11, (.goto 4, (14, [15]))), (14, (.iconst 0, (15, []))), (15, (.ireturn, (16, [])))]
abbrev m_Fp_isSum : zM := (yX6_isSum, (cX6_isSum, (1, (some .boolean, (0, 0)))))
set_option maxRecDepth 20000 in
theorem tk_Fp_isSum : tb_Fp_isSum.all (z_ent m_Fp_isSum.2.1 m_Fp_isSum.2.2.1) = true := by decide +kernel
theorem ys_Fp_isSum : z_yS m_Fp_isSum 1 := ⟨⟨⟨by decide +kernel, by decide +kernel, by decide +kernel⟩, z_mem 49 (by decide +kernel) (by decide +kernel), z_mem 208 (by decide +kernel) (by decide +kernel)⟩, z_mem 207 (by decide +kernel) (by decide +kernel)⟩
def tb_Fp_isSetOfSums : List (Nat × zI) := [(0, (.iload_n 0, (1, [0]))), (1, (.ifCond .eq 14, (4, [15]))), (4, (.iload_n 0, (5, [0]))), (5, (.ldc 254, (7, []))), (7, (.iand, (8, []))), (8, (.ifCond .ne 7, (11, [15]))), (11, (.iconst 1, (12, []))), (12, (.goto 4, (15, [16]))), (15, (.iconst 0, (16, []))), (16, (.ireturn, (17, [])))]
abbrev m_Fp_isSetOfSums : zM := (yX6_isSetOfSums, (cX6_isSetOfSums, (1, (some .boolean, (0, 0)))))
set_option maxRecDepth 20000 in
theorem tk_Fp_isSetOfSums : tb_Fp_isSetOfSums.all (z_ent m_Fp_isSetOfSums.2.1 m_Fp_isSetOfSums.2.2.1) = true := by decide +kernel
theorem ys_Fp_isSetOfSums : z_yS m_Fp_isSetOfSums 1 := ⟨⟨⟨by decide +kernel, by decide +kernel, by decide +kernel⟩, z_mem 49 (by decide +kernel) (by decide +kernel), z_mem 560 (by decide +kernel) (by decide +kernel)⟩, z_mem 559 (by decide +kernel) (by decide +kernel)⟩
def tb_Fp_isPart : List (Nat × zI) := [(0, (.iload_n 0, (1, [0]))), (1, (.ifCond .eq 8, (4, [9]))), (4, (.iload_n 0, (5, [0]))), (5, (.iconst 1, (6, []))), (6, (.if_icmp .ne 7, (9, [13]))), (9, (.iconst 1, (10, []))), (10, (.goto 4, (13, [14]))), (13, (.iconst 0, (14, []))), (14, (.ireturn, (15, [])))]
abbrev m_Fp_isPart : zM := (yX6_isPart, (cX6_isPart, (1, (some .boolean, (0, 0)))))
set_option maxRecDepth 20000 in
theorem tk_Fp_isPart : tb_Fp_isPart.all (z_ent m_Fp_isPart.2.1 m_Fp_isPart.2.2.1) = true := by decide +kernel
theorem ys_Fp_isPart : z_yS m_Fp_isPart 1 := ⟨⟨⟨by decide +kernel, by decide +kernel, by decide +kernel⟩, z_mem 49 (by decide +kernel) (by decide +kernel), z_mem 457 (by decide +kernel) (by decide +kernel)⟩, z_mem 456 (by decide +kernel) (by decide +kernel)⟩
def tb_Fp_isSheet : List (Nat × zI) := [(0, (.iload_n 0, (1, [0]))), (1, (.ifCond .lt 12, (4, [13]))), (4, (.iload_n 0, (5, [0]))), (5, (.iconst 4, (6, []))), (6, (.if_icmp .ge 7, (9, [13]))), (9, (.iconst 1, (10, []))), (10, (.goto 4, (13, [14]))), (13, (.iconst 0, (14, []))), (14, (.ireturn, (15, [])))]
abbrev m_Fp_isSheet : zM := (yX6_isSheet, (cX6_isSheet, (1, (some .boolean, (0, 0)))))
set_option maxRecDepth 20000 in
theorem tk_Fp_isSheet : tb_Fp_isSheet.all (z_ent m_Fp_isSheet.2.1 m_Fp_isSheet.2.2.1) = true := by decide +kernel
theorem ys_Fp_isSheet : z_yS m_Fp_isSheet 1 := ⟨⟨⟨by decide +kernel, by decide +kernel, by decide +kernel⟩, z_mem 49 (by decide +kernel) (by decide +kernel), z_mem 653 (by decide +kernel) (by decide +kernel)⟩, z_mem 652 (by decide +kernel) (by decide +kernel)⟩
def tb_Fp_isLane : List (Nat × zI) := [(0, (.iload_n 0, (1, [0]))), (1, (.ifCond .lt 12, (4, [13]))), (4, (.iload_n 0, (5, [0]))), (5, (.iconst 2, (6, []))), (6, (.if_icmp .gt 7, (9, [13]))), (9, (.iconst 1, (10, []))), (10, (.goto 4, (13, [14]))), (13, (.iconst 0, (14, []))), (14, (.ireturn, (15, [])))]
abbrev m_Fp_isLane : zM := (yX6_isLane, (cX6_isLane, (1, (some .boolean, (0, 0)))))
set_option maxRecDepth 20000 in
theorem tk_Fp_isLane : tb_Fp_isLane.all (z_ent m_Fp_isLane.2.1 m_Fp_isLane.2.2.1) = true := by decide +kernel
theorem ys_Fp_isLane : z_yS m_Fp_isLane 1 := ⟨⟨⟨by decide +kernel, by decide +kernel, by decide +kernel⟩, z_mem 49 (by decide +kernel) (by decide +kernel), z_mem 656 (by decide +kernel) (by decide +kernel)⟩, z_mem 655 (by decide +kernel) (by decide +kernel)⟩
def tb_Fp_areThree : List (Nat × zI) := [(0, (.aload_n 0, (1, [0]))), (1, (.getfield 12, (4, []))), (4, (.getfield 66, (7, []))), (7, (.iload_n 1, (8, [1]))), (8, (.invokevirtual 76, (11, []))), (11, (.ifCond .eq 50, (14, [61]))), (14, (.aload_n 0, (15, [0]))), (15, (.getfield 12, (18, []))), (18, (.getfield 66, (21, []))), (21, (.iload_n 2, (22, [2]))), (22, (.invokevirtual 76, (25, []))), (25, (.ifCond .eq 36, (28, [61]))), (28, (.aload_n 0, (29, [0]))), (29, (.getfield 12, (32, []))), (32, (.getfield 66, (35, []))), (35, (.iload_n 3, (36, [3]))), (36, (.invokevirtual 76, (39, []))), (39, (.ifCond .eq 22, (42, [61]))), (42, (.iload_n 1, (43, [1]))), (43, (.iload_n 2, (44, [2]))), (44, (.if_icmp .eq 17, (47, [61]))), (47, (.iload_n 1, (48, [1]))), (48, (.iload_n 3, (49, [3]))), (49, (.if_icmp .eq 12, (52, [61]))), (52, (.iload_n 2, (53, [2]))), (53, (.iload_n 3, (54, [3]))), (54, (.if_icmp .eq 7, (57, [61]))), (57, (.iconst 1, (58, []))), (58, (.goto 4, (61, [62]))), (61, (.iconst 0, (62, []))), (62, (.ireturn, (63, [])))]
abbrev m_Fp_areThree : zM := (yX6_areThree, (cX6_areThree, (4, (some .boolean, (1, 21)))))
set_option maxRecDepth 20000 in
theorem tk_Fp_areThree : tb_Fp_areThree.all (z_ent m_Fp_areThree.2.1 m_Fp_areThree.2.2.1) = true := by decide +kernel
theorem yv_Fp_areThree : z_yV m_Fp_areThree 3 6 := ⟨⟨⟨by decide +kernel, by decide +kernel, by decide +kernel⟩, z_mem 49 (by decide +kernel) (by decide +kernel), z_mem 530 (by decide +kernel) (by decide +kernel)⟩, z_mem 529 (by decide +kernel) (by decide +kernel), z_mem 15 (by decide +kernel) (by decide +kernel), TX6, 7, rfl⟩
def tb_Fp_byteOf : List (Nat × zI) := [(0, (.lload_n 0, (1, [0]))), (1, (.bipush 8, (3, []))), (3, (.iload_n 2, (4, [2]))), (4, (.imul, (5, []))), (5, (.lushr, (6, []))), (6, (.l2i, (7, []))), (7, (.sipush 255, (10, []))), (10, (.iand, (11, []))), (11, (.ireturn, (12, [])))]
abbrev m_Fp_byteOf : zM := (yX6_byteOf, (cX6_byteOf, (3, (some .int, (0, 0)))))
set_option maxRecDepth 20000 in
theorem tk_Fp_byteOf : tb_Fp_byteOf.all (z_ent m_Fp_byteOf.2.1 m_Fp_byteOf.2.2.1) = true := by decide +kernel
theorem ys_Fp_byteOf : z_yS m_Fp_byteOf 2 := ⟨⟨⟨by decide +kernel, by decide +kernel, by decide +kernel⟩, z_mem 49 (by decide +kernel) (by decide +kernel), z_mem 307 (by decide +kernel) (by decide +kernel)⟩, z_mem 306 (by decide +kernel) (by decide +kernel)⟩
def tb_Fp_isPrintable : List (Nat × zI) := [(0, (.iconst 0, (1, []))), (1, (.istore_n 3, (2, [3]))), (2, (.iload_n 3, (3, [3]))), (3, (.iload_n 2, (4, [2]))), (4, (.if_icmp .ge 32, (7, [36]))), (7, (.lload_n 0, (8, [0]))), (8, (.iload_n 3, (9, [3]))), (9, (.invokestatic 112, (12, []))), (12, (.istore 4, (14, [4]))), (14, (.iload 4, (16, [4]))), (16, (.bipush 32, (18, []))), (18, (.if_icmp .lt 10, (21, [28]))), (21, (.iload 4, (23, [4]))), (23, (.bipush 126, (25, []))), (25, (.if_icmp .le 5, (28, [30]))), (28, (.iconst 0, (29, []))), (29, (.ireturn, (30, []))), (30, (.iinc 3 1, (33, [3]))), (33, (.goto (-31), (36, [2]))), (36, (.iconst 1, (37, []))), (37, (.ireturn, (38, [])))]
abbrev m_Fp_isPrintable : zM := (yX6_isPrintable, (cX6_isPrintable, (5, (some .boolean, (1, 22)))))
set_option maxRecDepth 20000 in
theorem tk_Fp_isPrintable : tb_Fp_isPrintable.all (z_ent m_Fp_isPrintable.2.1 m_Fp_isPrintable.2.2.1) = true := by decide +kernel
theorem ys_Fp_isPrintable : z_yS m_Fp_isPrintable 2 := ⟨⟨⟨by decide +kernel, by decide +kernel, by decide +kernel⟩, z_mem 49 (by decide +kernel) (by decide +kernel), z_mem 304 (by decide +kernel) (by decide +kernel)⟩, z_mem 303 (by decide +kernel) (by decide +kernel)⟩
def tb_Fp_lowest : List (Nat × zI) := [(0, (.lload_n 2, (1, [2]))), (1, (.lstore 5, (3, [5]))), (3, (.lload_n 0, (4, [0]))), (4, (.lstore 7, (6, [7]))), (6, (.iconst 0, (7, []))), (7, (.istore 9, (9, [9]))), (9, (.iload 9, (11, [9]))), (11, (.sipush 200, (14, []))), (14, (.if_icmp .ge 31, (17, [45]))), (17, (.lload 7, (19, [7]))), (19, (.lconst 0, (20, [0]))), (20, (.lcmp, (21, []))), (21, (.ifCond .eq 24, (24, [45]))), (24, (.lload 5, (26, [5]))), (26, (.lload 7, (28, [7]))), (28, (.lrem, (29, []))), (29, (.lstore 10, (31, [10]))), (31, (.lload 7, (33, [7]))), (33, (.lstore 5, (35, [5]))), (35, (.lload 10, (37, [10]))), (37, (.lstore 7, (39, [7]))), (39, (.iinc 9 1, (42, [9]))), (42, (.goto (-33), (45, [9]))), (45, (.lload 5, (47, [5]))), (47, (.lconst 0, (48, [0]))), (48, (.lcmp, (49, []))), (49, (.ifCond .gt 5, (52, [54]))), (52, (.lconst 0, (53, [0]))), (53, (.lreturn, (54, []))), (54, (.iload 4, (56, [4]))), (56, (.ifCond .ne 10, (59, [66]))), (59, (.lload_n 0, (60, [0]))), (60, (.lload 5, (62, [5]))), (62, (.ldiv, (63, []))), (63, (.goto 7, (66, [70]))), (66, (.lload_n 2, (67, [2]))), (67, (.lload 5, (69, [5]))), (69, (.ldiv, (70, []))), (70, (.lreturn, (71, [])))]
abbrev m_Fp_lowest : zM := (yX6_lowest, (cX6_lowest, (12, (some .long, (0, 0)))))
set_option maxRecDepth 20000 in
theorem tk_Fp_lowest : tb_Fp_lowest.all (z_ent m_Fp_lowest.2.1 m_Fp_lowest.2.2.1) = true := by decide +kernel
theorem ys_Fp_lowest : z_yS m_Fp_lowest 3 := ⟨⟨⟨by decide +kernel, by decide +kernel, by decide +kernel⟩, z_mem 49 (by decide +kernel) (by decide +kernel), z_mem 465 (by decide +kernel) (by decide +kernel)⟩, z_mem 464 (by decide +kernel) (by decide +kernel)⟩
end
section
/-! TABLES: fields, constants, links -/
def ft_Co : List (Nat × (Nat × (Nat × Nat))) := [(9, (0, (0, 0))), (15, (0, (1, 0))), (18, (0, (2, 1))), (22, (0, (3, 1))), (25, (0, (4, 1)))]
theorem f_Co_9 : z_f1 RX0 9 (0, (0, 0)) := ⟨RX0, TX0, 5, rfl, by decide, izX0, rfl, Or.inl (z_mem 91 (by decide +kernel) (by decide +kernel)), fun h => absurd rfl h⟩
theorem f_Co_15 : z_f1 RX0 15 (0, (1, 0)) := ⟨RX0, TX0, 5, rfl, by decide, izX0, rfl, Or.inl (z_mem 92 (by decide +kernel) (by decide +kernel)), fun h => absurd rfl h⟩
theorem f_Co_18 : z_f1 RX0 18 (0, (2, 1)) := ⟨RX0, TX0, 5, rfl, by decide, izX0, rfl, Or.inl (z_mem 93 (by decide +kernel) (by decide +kernel)), fun _ => ⟨z_mem 93 (by decide +kernel) (by decide +kernel), rfl, ⟨tyX0, tyX0_ok⟩, nmX0, Or.inl ⟨rfl, by decide +kernel⟩⟩⟩
theorem f_Co_22 : z_f1 RX0 22 (0, (3, 1)) := ⟨RX0, TX0, 5, rfl, by decide, izX0, rfl, Or.inl (z_mem 94 (by decide +kernel) (by decide +kernel)), fun _ => ⟨z_mem 94 (by decide +kernel) (by decide +kernel), rfl, ⟨tyX0, tyX0_ok⟩, nmX0, Or.inl ⟨rfl, by decide +kernel⟩⟩⟩
theorem f_Co_25 : z_f1 RX0 25 (0, (4, 1)) := ⟨RX0, TX0, 5, rfl, by decide, izX0, rfl, Or.inl (z_mem 95 (by decide +kernel) (by decide +kernel)), fun _ => ⟨z_mem 95 (by decide +kernel) (by decide +kernel), rfl, ⟨tyX0, tyX0_ok⟩, nmX0, Or.inl ⟨rfl, by decide +kernel⟩⟩⟩
theorem fok_Co : z_fok RX0 ft_Co := List.forall_mem_cons.mpr ⟨f_Co_9, List.forall_mem_cons.mpr ⟨f_Co_15, List.forall_mem_cons.mpr ⟨f_Co_18, List.forall_mem_cons.mpr ⟨f_Co_22, List.forall_mem_cons.mpr ⟨f_Co_25, fun _ h => absurd h List.not_mem_nil⟩⟩⟩⟩⟩
def ct_Co : List (Nat × Int) × List (Nat × Int) := ([], [])
theorem cok_Co : z_cok RX0 ct_Co := ⟨fun _ h => absurd h List.not_mem_nil, fun _ h => absurd h List.not_mem_nil⟩
theorem lk_Co_28 : Cond.methodLink RX0 28 yX0_has ∈ z_tbl := z_mem 246 (by decide +kernel) (by decide +kernel)
theorem lk_Co_32 : Cond.methodLink RX0 32 yX0_kindOf ∈ z_tbl := z_mem 242 (by decide +kernel) (by decide +kernel)
theorem lk_Co_36 : Cond.methodLink RX0 36 arraycopyName ∈ z_tbl := z_mem 403 (by decide +kernel) (by decide +kernel)
theorem lk_Co_42 : Cond.methodLink RX0 42 yX0_seatAll ∈ z_tbl := z_mem 584 (by decide +kernel) (by decide +kernel)
theorem lk_Co_46 : Cond.methodLink RX0 46 yX0_slipAlone ∈ z_tbl := z_mem 276 (by decide +kernel) (by decide +kernel)
theorem lk_Co_50 : Cond.methodLink RX0 50 yX0_slipOf ∈ z_tbl := z_mem 280 (by decide +kernel) (by decide +kernel)
theorem lk_Co_53 : Cond.methodLink RX0 53 yX0_freeGuest ∈ z_tbl := z_mem 428 (by decide +kernel) (by decide +kernel)
theorem lk_Co_57 : Cond.methodLink RX0 57 yX0_share ∈ z_tbl := z_mem 436 (by decide +kernel) (by decide +kernel)
theorem lk_Co_60 : Cond.methodLink RX0 60 yX0_placeOf ∈ z_tbl := z_mem 432 (by decide +kernel) (by decide +kernel)
theorem lk_Co_63 : Cond.methodLink RX0 63 yX0_shareOfTwo ∈ z_tbl := z_mem 440 (by decide +kernel) (by decide +kernel)
theorem lk_Co_67 : Cond.methodLink RX0 67 yX0_shareOfMost ∈ z_tbl := z_mem 447 (by decide +kernel) (by decide +kernel)
theorem lk_Co_70 : Cond.methodLink RX0 70 (⟨"java/lang/Math", "abs", "(I)I"⟩ : MethodName) ∈ z_tbl := z_mem 444 (by decide +kernel) (by decide +kernel)
def ft_Ni : List (Nat × (Nat × (Nat × Nat))) := [(9, (1, (0, 0))), (17, (1, (1, 0))), (21, (1, (2, 1)))]
theorem f_Ni_9 : z_f1 RX1 9 (1, (0, 0)) := ⟨RX1, TX1, 3, rfl, by decide, izX1, rfl, Or.inl (z_mem 116 (by decide +kernel) (by decide +kernel)), fun h => absurd rfl h⟩
theorem f_Ni_17 : z_f1 RX1 17 (1, (1, 0)) := ⟨RX1, TX1, 3, rfl, by decide, izX1, rfl, Or.inl (z_mem 117 (by decide +kernel) (by decide +kernel)), fun h => absurd rfl h⟩
theorem f_Ni_21 : z_f1 RX1 21 (1, (2, 1)) := ⟨RX1, TX1, 3, rfl, by decide, izX1, rfl, Or.inl (z_mem 118 (by decide +kernel) (by decide +kernel)), fun _ => ⟨z_mem 118 (by decide +kernel) (by decide +kernel), rfl, ⟨tyX1, tyX1_ok⟩, nmX1, Or.inl ⟨rfl, by decide +kernel⟩⟩⟩
theorem fok_Ni : z_fok RX1 ft_Ni := List.forall_mem_cons.mpr ⟨f_Ni_9, List.forall_mem_cons.mpr ⟨f_Ni_17, List.forall_mem_cons.mpr ⟨f_Ni_21, fun _ h => absurd h List.not_mem_nil⟩⟩⟩
def ct_Ni : List (Nat × Int) × List (Nat × Int) := ([], [])
theorem cok_Ni : z_cok RX1 ct_Ni := ⟨fun _ h => absurd h List.not_mem_nil, fun _ h => absurd h List.not_mem_nil⟩
theorem lk_Ni_26 : Cond.methodLink RX1 26 yX0_copyFrom ∈ z_tbl := z_mem 580 (by decide +kernel) (by decide +kernel)
theorem lk_Ni_30 : Cond.methodLink RX1 30 yX1_alwaysKnew ∈ z_tbl := z_mem 593 (by decide +kernel) (by decide +kernel)
theorem lk_Ni_34 : Cond.methodLink RX1 34 yX0_has ∈ z_tbl := z_mem 597 (by decide +kernel) (by decide +kernel)
theorem lk_Ni_37 : Cond.methodLink RX1 37 yX0_slipOf ∈ z_tbl := z_mem 598 (by decide +kernel) (by decide +kernel)
theorem lk_Ni_41 : Cond.methodLink RX1 41 yX1_alwaysPaid ∈ z_tbl := z_mem 607 (by decide +kernel) (by decide +kernel)
theorem lk_Ni_44 : Cond.methodLink RX1 44 yX1_alwaysBetween ∈ z_tbl := z_mem 613 (by decide +kernel) (by decide +kernel)
theorem lk_Ni_48 : Cond.methodLink RX1 48 yX0_freeGuest ∈ z_tbl := z_mem 611 (by decide +kernel) (by decide +kernel)
theorem lk_Ni_52 : Cond.methodLink RX1 52 yX0_share ∈ z_tbl := z_mem 612 (by decide +kernel) (by decide +kernel)
theorem lk_Ni_56 : Cond.methodLink RX1 56 yX0_isBetween ∈ z_tbl := z_mem 617 (by decide +kernel) (by decide +kernel)
def ft_Sh : List (Nat × (Nat × (Nat × Nat))) := [(9, (2, (0, 0))), (15, (2, (1, 1))), (19, (2, (2, 1)))]
theorem f_Sh_9 : z_f1 RX2 9 (2, (0, 0)) := ⟨RX2, TX2, 3, rfl, by decide, izX2, rfl, Or.inl (z_mem 169 (by decide +kernel) (by decide +kernel)), fun h => absurd rfl h⟩
theorem f_Sh_15 : z_f1 RX2 15 (2, (1, 1)) := ⟨RX2, TX2, 3, rfl, by decide, izX2, rfl, Or.inl (z_mem 170 (by decide +kernel) (by decide +kernel)), fun _ => ⟨z_mem 170 (by decide +kernel) (by decide +kernel), rfl, ⟨tyX2, tyX2_ok⟩, nmX2, Or.inl ⟨rfl, by decide +kernel⟩⟩⟩
theorem f_Sh_19 : z_f1 RX2 19 (2, (2, 1)) := ⟨RX2, TX2, 3, rfl, by decide, izX2, rfl, Or.inl (z_mem 171 (by decide +kernel) (by decide +kernel)), fun _ => ⟨z_mem 171 (by decide +kernel) (by decide +kernel), rfl, ⟨tyX2, tyX2_ok⟩, nmX2, Or.inl ⟨rfl, by decide +kernel⟩⟩⟩
theorem fok_Sh : z_fok RX2 ft_Sh := List.forall_mem_cons.mpr ⟨f_Sh_9, List.forall_mem_cons.mpr ⟨f_Sh_15, List.forall_mem_cons.mpr ⟨f_Sh_19, fun _ h => absurd h List.not_mem_nil⟩⟩⟩
def ct_Sh : List (Nat × Int) × List (Nat × Int) := ([], [(34, 99), (36, -1)])
theorem cok_Sh : z_cok RX2 ct_Sh := ⟨fun _ h => absurd h List.not_mem_nil, List.forall_mem_cons.mpr ⟨z_mem 673 (by decide +kernel) (by decide +kernel), List.forall_mem_cons.mpr ⟨z_mem 674 (by decide +kernel) (by decide +kernel), fun _ h => absurd h List.not_mem_nil⟩⟩⟩
theorem lk_Sh_22 : Cond.methodLink RX2 22 yX2_isMissing ∈ z_tbl := z_mem 661 (by decide +kernel) (by decide +kernel)
theorem lk_Sh_26 : Cond.methodLink RX2 26 yX2_narrowed ∈ z_tbl := z_mem 706 (by decide +kernel) (by decide +kernel)
theorem lk_Sh_30 : Cond.methodLink RX2 30 yX2_itemAt ∈ z_tbl := z_mem 669 (by decide +kernel) (by decide +kernel)
def ft_Su : List (Nat × (Nat × (Nat × Nat))) := [(9, (3, (0, 0)))]
theorem f_Su_9 : z_f1 RX3 9 (3, (0, 0)) := ⟨RX3, TX3, 1, rfl, by decide, izX3, rfl, Or.inl (z_mem 80 (by decide +kernel) (by decide +kernel)), fun h => absurd rfl h⟩
theorem fok_Su : z_fok RX3 ft_Su := List.forall_mem_cons.mpr ⟨f_Su_9, fun _ h => absurd h List.not_mem_nil⟩
def ct_Su : List (Nat × Int) × List (Nat × Int) := ([], [])
theorem cok_Su : z_cok RX3 ct_Su := ⟨fun _ h => absurd h List.not_mem_nil, fun _ h => absurd h List.not_mem_nil⟩
theorem lk_Su_19 : Cond.methodLink RX3 19 arraycopyName ∈ z_tbl := z_mem 372 (by decide +kernel) (by decide +kernel)
theorem lk_Su_25 : Cond.methodLink RX3 25 yX3_together ∈ z_tbl := z_mem 267 (by decide +kernel) (by decide +kernel)
theorem lk_Su_29 : Cond.methodLink RX3 29 yX3_weighed ∈ z_tbl := z_mem 268 (by decide +kernel) (by decide +kernel)
theorem lk_Su_15 : z_lk1 RX3 15 yX6_isSum := Or.inr ⟨"FarthestPays", List.mem_of_getElem? (i := 11) (by decide +kernel)⟩
def ft_Ta : List (Nat × (Nat × (Nat × Nat))) := [(12, (4, (0, 0))), (21, (4, (1, 0))), (28, (4, (2, 0)))]
theorem f_Ta_12 : z_f1 RX4 12 (4, (0, 0)) := ⟨RX4, TX4, 3, rfl, by decide, izX4, rfl, Or.inl (z_mem 126 (by decide +kernel) (by decide +kernel)), fun h => absurd rfl h⟩
theorem f_Ta_21 : z_f1 RX4 21 (4, (1, 0)) := ⟨RX4, TX4, 3, rfl, by decide, izX4, rfl, Or.inl (z_mem 128 (by decide +kernel) (by decide +kernel)), fun h => absurd rfl h⟩
theorem f_Ta_28 : z_f1 RX4 28 (4, (2, 0)) := ⟨RX4, TX4, 3, rfl, by decide, izX4, rfl, Or.inl (z_mem 130 (by decide +kernel) (by decide +kernel)), fun h => absurd rfl h⟩
theorem fok_Ta : z_fok RX4 ft_Ta := List.forall_mem_cons.mpr ⟨f_Ta_12, List.forall_mem_cons.mpr ⟨f_Ta_21, List.forall_mem_cons.mpr ⟨f_Ta_28, fun _ h => absurd h List.not_mem_nil⟩⟩⟩
def ct_Ta : List (Nat × Int) × List (Nat × Int) := ([], [(54, 2520), (91, -1)])
theorem cok_Ta : z_cok RX4 ct_Ta := ⟨fun _ h => absurd h List.not_mem_nil, List.forall_mem_cons.mpr ⟨z_mem 492 (by decide +kernel) (by decide +kernel), List.forall_mem_cons.mpr ⟨z_mem 536 (by decide +kernel) (by decide +kernel), fun _ h => absurd h List.not_mem_nil⟩⟩⟩
theorem lk_Ta_32 : Cond.methodLink RX4 32 yX3_copyFrom ∈ z_tbl := z_mem 637 (by decide +kernel) (by decide +kernel)
theorem lk_Ta_36 : Cond.methodLink RX4 36 yX0_copyFrom ∈ z_tbl := z_mem 638 (by decide +kernel) (by decide +kernel)
theorem lk_Ta_39 : Cond.methodLink RX4 39 yX1_copyFrom ∈ z_tbl := z_mem 639 (by decide +kernel) (by decide +kernel)
theorem lk_Ta_42 : Cond.methodLink RX4 42 yX0_freeGuest ∈ z_tbl := z_mem 476 (by decide +kernel) (by decide +kernel)
theorem lk_Ta_46 : Cond.methodLink RX4 46 yX3_weightOf ∈ z_tbl := z_mem 477 (by decide +kernel) (by decide +kernel)
theorem lk_Ta_50 : Cond.methodLink RX4 50 yX0_share ∈ z_tbl := z_mem 478 (by decide +kernel) (by decide +kernel)
theorem lk_Ta_56 : Cond.methodLink RX4 56 yX3_weighed ∈ z_tbl := z_mem 493 (by decide +kernel) (by decide +kernel)
theorem lk_Ta_59 : Cond.methodLink RX4 59 yX0_slipOf ∈ z_tbl := z_mem 487 (by decide +kernel) (by decide +kernel)
theorem lk_Ta_62 : Cond.methodLink RX4 62 yX0_putSlip ∈ z_tbl := z_mem 494 (by decide +kernel) (by decide +kernel)
theorem lk_Ta_66 : Cond.methodLink RX4 66 yX4_burden ∈ z_tbl := z_mem 495 (by decide +kernel) (by decide +kernel)
theorem lk_Ta_70 : Cond.methodLink RX4 70 yX4_wholeBurden ∈ z_tbl := z_mem 488 (by decide +kernel) (by decide +kernel)
theorem lk_Ta_74 : Cond.methodLink RX4 74 yX0_isNought ∈ z_tbl := z_mem 509 (by decide +kernel) (by decide +kernel)
theorem lk_Ta_78 : Cond.methodLink RX4 78 yX4_lightestSlip ∈ z_tbl := z_mem 510 (by decide +kernel) (by decide +kernel)
theorem lk_Ta_81 : Cond.methodLink RX4 81 yX4_burdenBy ∈ z_tbl := z_mem 511 (by decide +kernel) (by decide +kernel)
theorem lk_Ta_85 : Cond.methodLink RX4 85 yX0_size ∈ z_tbl := z_mem 504 (by decide +kernel) (by decide +kernel)
theorem lk_Ta_88 : Cond.methodLink RX4 88 yX4_betterSlip ∈ z_tbl := z_mem 505 (by decide +kernel) (by decide +kernel)
theorem lk_Ta_93 : Cond.methodLink RX4 93 yX4_putPair ∈ z_tbl := z_mem 537 (by decide +kernel) (by decide +kernel)
theorem lk_Ta_97 : Cond.methodLink RX4 97 yX4_hardestPair ∈ z_tbl := z_mem 549 (by decide +kernel) (by decide +kernel)
theorem lk_Ta_101 : Cond.methodLink RX4 101 yX4_burdenByPair ∈ z_tbl := z_mem 550 (by decide +kernel) (by decide +kernel)
def ft_Tp : List (Nat × (Nat × (Nat × Nat))) := [(9, (5, (0, 0))), (15, (5, (1, 1))), (19, (5, (2, 1))), (22, (5, (3, 1)))]
theorem f_Tp_9 : z_f1 RX5 9 (5, (0, 0)) := ⟨RX5, TX5, 4, rfl, by decide, izX5, rfl, Or.inl (z_mem 145 (by decide +kernel) (by decide +kernel)), fun h => absurd rfl h⟩
theorem f_Tp_15 : z_f1 RX5 15 (5, (1, 1)) := ⟨RX5, TX5, 4, rfl, by decide, izX5, rfl, Or.inl (z_mem 146 (by decide +kernel) (by decide +kernel)), fun _ => ⟨z_mem 146 (by decide +kernel) (by decide +kernel), rfl, ⟨tyX5, tyX5_ok⟩, nmX5, Or.inl ⟨rfl, by decide +kernel⟩⟩⟩
theorem f_Tp_19 : z_f1 RX5 19 (5, (2, 1)) := ⟨RX5, TX5, 4, rfl, by decide, izX5, rfl, Or.inl (z_mem 147 (by decide +kernel) (by decide +kernel)), fun _ => ⟨z_mem 147 (by decide +kernel) (by decide +kernel), rfl, ⟨tyX5, tyX5_ok⟩, nmX5, Or.inl ⟨rfl, by decide +kernel⟩⟩⟩
theorem f_Tp_22 : z_f1 RX5 22 (5, (3, 1)) := ⟨RX5, TX5, 4, rfl, by decide, izX5, rfl, Or.inl (z_mem 148 (by decide +kernel) (by decide +kernel)), fun _ => ⟨z_mem 148 (by decide +kernel) (by decide +kernel), rfl, ⟨tyX5, tyX5_ok⟩, nmX5, Or.inl ⟨rfl, by decide +kernel⟩⟩⟩
theorem fok_Tp : z_fok RX5 ft_Tp := List.forall_mem_cons.mpr ⟨f_Tp_9, List.forall_mem_cons.mpr ⟨f_Tp_15, List.forall_mem_cons.mpr ⟨f_Tp_19, List.forall_mem_cons.mpr ⟨f_Tp_22, fun _ h => absurd h List.not_mem_nil⟩⟩⟩⟩
def ct_Tp : List (Nat × Int) × List (Nat × Int) := ([], [])
theorem cok_Tp : z_cok RX5 ct_Tp := ⟨fun _ h => absurd h List.not_mem_nil, fun _ h => absurd h List.not_mem_nil⟩
theorem lk_Tp_25 : Cond.methodLink RX5 25 yX3_clear ∈ z_tbl := z_mem 324 (by decide +kernel) (by decide +kernel)
theorem lk_Tp_30 : Cond.methodLink RX5 30 yX5_begin ∈ z_tbl := z_mem 328 (by decide +kernel) (by decide +kernel)
theorem lk_Tp_33 : Cond.methodLink RX5 33 yX5_readDish ∈ z_tbl := z_mem 332 (by decide +kernel) (by decide +kernel)
theorem lk_Tp_37 : Cond.methodLink RX5 37 yX5_goesOn ∈ z_tbl := z_mem 364 (by decide +kernel) (by decide +kernel)
theorem lk_Tp_41 : Cond.methodLink RX5 41 yX0_clear ∈ z_tbl := z_mem 383 (by decide +kernel) (by decide +kernel)
theorem lk_Tp_44 : Cond.methodLink RX5 44 yX5_readGuest ∈ z_tbl := z_mem 387 (by decide +kernel) (by decide +kernel)
theorem lk_Tp_48 : Cond.methodLink RX5 48 yX5_skipBlanks ∈ z_tbl := z_mem 336 (by decide +kernel) (by decide +kernel)
theorem lk_Tp_51 : Cond.methodLink RX5 51 yX5_readNumber ∈ z_tbl := z_mem 340 (by decide +kernel) (by decide +kernel)
theorem lk_Tp_55 : Cond.methodLink RX5 55 yX3_weightOf ∈ z_tbl := z_mem 354 (by decide +kernel) (by decide +kernel)
theorem lk_Tp_59 : Cond.methodLink RX5 59 yX5_faultAt ∈ z_tbl := z_mem 350 (by decide +kernel) (by decide +kernel)
theorem lk_Tp_63 : Cond.methodLink RX5 63 yX5_readSign ∈ z_tbl := z_mem 355 (by decide +kernel) (by decide +kernel)
theorem lk_Tp_66 : Cond.methodLink RX5 66 yX3_putWeight ∈ z_tbl := z_mem 363 (by decide +kernel) (by decide +kernel)
theorem lk_Tp_70 : Cond.methodLink RX5 70 yX5_readKind ∈ z_tbl := z_mem 391 (by decide +kernel) (by decide +kernel)
theorem lk_Tp_74 : Cond.methodLink RX5 74 yX5_next ∈ z_tbl := z_mem 359 (by decide +kernel) (by decide +kernel)
theorem lk_Tp_77 : Cond.methodLink RX5 77 yX5_isFigure ∈ z_tbl := z_mem 344 (by decide +kernel) (by decide +kernel)
theorem lk_Tp_81 : Cond.methodLink RX5 81 yX0_seat ∈ z_tbl := z_mem 398 (by decide +kernel) (by decide +kernel)
theorem lk_Tp_84 : Cond.methodLink RX5 84 yX5_kindBy ∈ z_tbl := z_mem 395 (by decide +kernel) (by decide +kernel)
theorem lk_Tp_87 : Cond.methodLink RX5 87 (⟨"java/lang/Math", "min", "(II)I"⟩ : MethodName) ∈ z_tbl := z_mem 347 (by decide +kernel) (by decide +kernel)
def ft_Fp : List (Nat × (Nat × (Nat × Nat))) := [(12, (6, (0, 0))), (16, (6, (1, 0))), (19, (6, (2, 2))), (26, (6, (3, 0))), (33, (6, (4, 0))), (40, (6, (5, 0))), (46, (6, (6, 0))), (55, (4, (0, 0))), (66, (4, (1, 0))), (136, (4, (2, 0)))]
theorem f_Fp_12 : z_f1 RX6 12 (6, (0, 0)) := ⟨RX6, TX6, 7, rfl, by decide, izX6, rfl, Or.inl (z_mem 180 (by decide +kernel) (by decide +kernel)), fun h => absurd rfl h⟩
theorem f_Fp_16 : z_f1 RX6 16 (6, (1, 0)) := ⟨RX6, TX6, 7, rfl, by decide, izX6, rfl, Or.inl (z_mem 181 (by decide +kernel) (by decide +kernel)), fun h => absurd rfl h⟩
theorem f_Fp_19 : z_f1 RX6 19 (6, (2, 2)) := ⟨RX6, TX6, 7, rfl, by decide, izX6, rfl, Or.inl (z_mem 182 (by decide +kernel) (by decide +kernel)), fun _ => ⟨z_mem 182 (by decide +kernel) (by decide +kernel), rfl, ⟨tyX6, tyX6_ok⟩, nmX6, Or.inr ⟨rfl, by decide +kernel⟩⟩⟩
theorem f_Fp_26 : z_f1 RX6 26 (6, (3, 0)) := ⟨RX6, TX6, 7, rfl, by decide, izX6, rfl, Or.inl (z_mem 183 (by decide +kernel) (by decide +kernel)), fun h => absurd rfl h⟩
theorem f_Fp_33 : z_f1 RX6 33 (6, (4, 0)) := ⟨RX6, TX6, 7, rfl, by decide, izX6, rfl, Or.inl (z_mem 184 (by decide +kernel) (by decide +kernel)), fun h => absurd rfl h⟩
theorem f_Fp_40 : z_f1 RX6 40 (6, (5, 0)) := ⟨RX6, TX6, 7, rfl, by decide, izX6, rfl, Or.inl (z_mem 185 (by decide +kernel) (by decide +kernel)), fun h => absurd rfl h⟩
theorem f_Fp_46 : z_f1 RX6 46 (6, (6, 0)) := ⟨RX6, TX6, 7, rfl, by decide, izX6, rfl, Or.inl (z_mem 186 (by decide +kernel) (by decide +kernel)), fun h => absurd rfl h⟩
theorem f_Fp_55 : z_f1 RX6 55 (4, (0, 0)) := ⟨RX4, TX4, 3, rfl, by decide, izX4, rfl, Or.inr ⟨"FarthestPays", List.mem_of_getElem? (i := 4) (by decide +kernel)⟩, fun h => absurd rfl h⟩
theorem f_Fp_66 : z_f1 RX6 66 (4, (1, 0)) := ⟨RX4, TX4, 3, rfl, by decide, izX4, rfl, Or.inr ⟨"FarthestPays", List.mem_of_getElem? (i := 5) (by decide +kernel)⟩, fun h => absurd rfl h⟩
theorem f_Fp_136 : z_f1 RX6 136 (4, (2, 0)) := ⟨RX4, TX4, 3, rfl, by decide, izX4, rfl, Or.inr ⟨"FarthestPays", List.mem_of_getElem? (i := 6) (by decide +kernel)⟩, fun h => absurd rfl h⟩
theorem fok_Fp : z_fok RX6 ft_Fp := List.forall_mem_cons.mpr ⟨f_Fp_12, List.forall_mem_cons.mpr ⟨f_Fp_16, List.forall_mem_cons.mpr ⟨f_Fp_19, List.forall_mem_cons.mpr ⟨f_Fp_26, List.forall_mem_cons.mpr ⟨f_Fp_33, List.forall_mem_cons.mpr ⟨f_Fp_40, List.forall_mem_cons.mpr ⟨f_Fp_46, List.forall_mem_cons.mpr ⟨f_Fp_55, List.forall_mem_cons.mpr ⟨f_Fp_66, List.forall_mem_cons.mpr ⟨f_Fp_136, fun _ h => absurd h List.not_mem_nil⟩⟩⟩⟩⟩⟩⟩⟩⟩⟩
def ct_Fp : List (Nat × Int) × List (Nat × Int) := ([(254, -2097152)], [(158, 2520), (164, -1), (166, -2)])
theorem cok_Fp : z_cok RX6 ct_Fp := ⟨List.forall_mem_cons.mpr ⟨z_mem 561 (by decide +kernel) (by decide +kernel), fun _ h => absurd h List.not_mem_nil⟩, List.forall_mem_cons.mpr ⟨z_mem 462 (by decide +kernel) (by decide +kernel), List.forall_mem_cons.mpr ⟨z_mem 470 (by decide +kernel) (by decide +kernel), List.forall_mem_cons.mpr ⟨z_mem 471 (by decide +kernel) (by decide +kernel), fun _ h => absurd h List.not_mem_nil⟩⟩⟩⟩
theorem lk_Fp_51 : Cond.methodLink RX6 51 yX6_isSum ∈ z_tbl := z_mem 206 (by decide +kernel) (by decide +kernel)
theorem lk_Fp_58 : Cond.methodLink RX6 58 yX3_weightOf ∈ z_tbl := z_mem 209 (by decide +kernel) (by decide +kernel)
theorem lk_Fp_62 : Cond.methodLink RX6 62 yX3_putWeight ∈ z_tbl := z_mem 214 (by decide +kernel) (by decide +kernel)
theorem lk_Fp_69 : Cond.methodLink RX6 69 yX0_size ∈ z_tbl := z_mem 222 (by decide +kernel) (by decide +kernel)
theorem lk_Fp_73 : Cond.methodLink RX6 73 yX0_seat ∈ z_tbl := z_mem 226 (by decide +kernel) (by decide +kernel)
theorem lk_Fp_76 : Cond.methodLink RX6 76 yX0_has ∈ z_tbl := z_mem 234 (by decide +kernel) (by decide +kernel)
theorem lk_Fp_79 : Cond.methodLink RX6 79 yX0_isNought ∈ z_tbl := z_mem 238 (by decide +kernel) (by decide +kernel)
theorem lk_Fp_82 : Cond.methodLink RX6 82 yX0_slipOf ∈ z_tbl := z_mem 247 (by decide +kernel) (by decide +kernel)
theorem lk_Fp_85 : Cond.methodLink RX6 85 yX0_putSlip ∈ z_tbl := z_mem 251 (by decide +kernel) (by decide +kernel)
theorem lk_Fp_88 : Cond.methodLink RX6 88 yX3_together ∈ z_tbl := z_mem 259 (by decide +kernel) (by decide +kernel)
theorem lk_Fp_91 : Cond.methodLink RX6 91 yX3_meanSum ∈ z_tbl := z_mem 263 (by decide +kernel) (by decide +kernel)
theorem lk_Fp_94 : Cond.methodLink RX6 94 yX0_writeAlone ∈ z_tbl := z_mem 272 (by decide +kernel) (by decide +kernel)
theorem lk_Fp_98 : Cond.methodLink RX6 98 yX0_kindOf ∈ z_tbl := z_mem 285 (by decide +kernel) (by decide +kernel)
theorem lk_Fp_101 : Cond.methodLink RX6 101 yX0_changeWho ∈ z_tbl := z_mem 290 (by decide +kernel) (by decide +kernel)
theorem lk_Fp_104 : Cond.methodLink RX6 104 yX0_changeTies ∈ z_tbl := z_mem 294 (by decide +kernel) (by decide +kernel)
theorem lk_Fp_107 : Cond.methodLink RX6 107 yX6_isPrintable ∈ z_tbl := z_mem 302 (by decide +kernel) (by decide +kernel)
theorem lk_Fp_111 : Cond.methodLink RX6 111 yX5_size ∈ z_tbl := z_mem 308 (by decide +kernel) (by decide +kernel)
theorem lk_Fp_112 : Cond.methodLink RX6 112 yX6_byteOf ∈ z_tbl := z_mem 305 (by decide +kernel) (by decide +kernel)
theorem lk_Fp_116 : Cond.methodLink RX6 116 yX5_append ∈ z_tbl := z_mem 312 (by decide +kernel) (by decide +kernel)
theorem lk_Fp_120 : Cond.methodLink RX6 120 yX5_takeSupper ∈ z_tbl := z_mem 320 (by decide +kernel) (by decide +kernel)
theorem lk_Fp_124 : Cond.methodLink RX6 124 yX3_copyFrom ∈ z_tbl := z_mem 368 (by decide +kernel) (by decide +kernel)
theorem lk_Fp_128 : Cond.methodLink RX6 128 yX5_takeGuests ∈ z_tbl := z_mem 379 (by decide +kernel) (by decide +kernel)
theorem lk_Fp_132 : Cond.methodLink RX6 132 yX0_seatAll ∈ z_tbl := z_mem 399 (by decide +kernel) (by decide +kernel)
theorem lk_Fp_140 : Cond.methodLink RX6 140 yX1_clear ∈ z_tbl := z_mem 404 (by decide +kernel) (by decide +kernel)
theorem lk_Fp_145 : Cond.methodLink RX6 145 yX3_sumsOfWeight ∈ z_tbl := z_mem 412 (by decide +kernel) (by decide +kernel)
theorem lk_Fp_148 : Cond.methodLink RX6 148 yX1_size ∈ z_tbl := z_mem 416 (by decide +kernel) (by decide +kernel)
theorem lk_Fp_149 : Cond.methodLink RX6 149 yX0_payers ∈ z_tbl := z_mem 424 (by decide +kernel) (by decide +kernel)
theorem lk_Fp_152 : Cond.methodLink RX6 152 yX6_isPart ∈ z_tbl := z_mem 455 (by decide +kernel) (by decide +kernel)
theorem lk_Fp_155 : Cond.methodLink RX6 155 yX0_due ∈ z_tbl := z_mem 458 (by decide +kernel) (by decide +kernel)
theorem lk_Fp_160 : Cond.methodLink RX6 160 yX6_lowest ∈ z_tbl := z_mem 463 (by decide +kernel) (by decide +kernel)
theorem lk_Fp_168 : Cond.methodLink RX6 168 yX4_burden ∈ z_tbl := z_mem 472 (by decide +kernel) (by decide +kernel)
theorem lk_Fp_172 : Cond.methodLink RX6 172 yX4_lightestSlip ∈ z_tbl := z_mem 483 (by decide +kernel) (by decide +kernel)
theorem lk_Fp_175 : Cond.methodLink RX6 175 yX4_nobodyWouldChange ∈ z_tbl := z_mem 500 (by decide +kernel) (by decide +kernel)
theorem lk_Fp_179 : Cond.methodLink RX6 179 yX4_takeTurns ∈ z_tbl := z_mem 519 (by decide +kernel) (by decide +kernel)
theorem lk_Fp_182 : Cond.methodLink RX6 182 yX6_areThree ∈ z_tbl := z_mem 527 (by decide +kernel) (by decide +kernel)
theorem lk_Fp_186 : Cond.methodLink RX6 186 yX4_wholeBurden ∈ z_tbl := z_mem 531 (by decide +kernel) (by decide +kernel)
theorem lk_Fp_190 : Cond.methodLink RX6 190 yX4_hardestPair ∈ z_tbl := z_mem 532 (by decide +kernel) (by decide +kernel)
theorem lk_Fp_194 : Cond.methodLink RX6 194 yX4_safestSlip ∈ z_tbl := z_mem 545 (by decide +kernel) (by decide +kernel)
theorem lk_Fp_198 : Cond.methodLink RX6 198 yX6_isSetOfSums ∈ z_tbl := z_mem 558 (by decide +kernel) (by decide +kernel)
theorem lk_Fp_201 : Cond.methodLink RX6 201 (⟨"java/lang/Integer", "bitCount", "(I)I"⟩ : MethodName) ∈ z_tbl := z_mem 566 (by decide +kernel) (by decide +kernel)
theorem lk_Fp_206 : Cond.methodLink RX6 206 yX1_append ∈ z_tbl := z_mem 576 (by decide +kernel) (by decide +kernel)
theorem lk_Fp_209 : Cond.methodLink RX6 209 yX1_knowers ∈ z_tbl := z_mem 589 (by decide +kernel) (by decide +kernel)
theorem lk_Fp_212 : Cond.methodLink RX6 212 yX1_pairsAgainst ∈ z_tbl := z_mem 603 (by decide +kernel) (by decide +kernel)
theorem lk_Fp_215 : Cond.methodLink RX6 215 yX1_firstPairAgainst ∈ z_tbl := z_mem 621 (by decide +kernel) (by decide +kernel)
theorem lk_Fp_218 : Cond.methodLink RX6 218 yX4_copyFrom ∈ z_tbl := z_mem 633 (by decide +kernel) (by decide +kernel)
theorem lk_Fp_221 : Cond.methodLink RX6 221 yX6_isSheet ∈ z_tbl := z_mem 651 (by decide +kernel) (by decide +kernel)
theorem lk_Fp_224 : Cond.methodLink RX6 224 yX6_isLane ∈ z_tbl := z_mem 654 (by decide +kernel) (by decide +kernel)
theorem lk_Fp_227 : Cond.methodLink RX6 227 yX2_refusal ∈ z_tbl := z_mem 657 (by decide +kernel) (by decide +kernel)
theorem lk_Fp_230 : Cond.methodLink RX6 230 yX2_weightsTogether ∈ z_tbl := z_mem 665 (by decide +kernel) (by decide +kernel)
theorem lk_Fp_234 : Cond.methodLink RX6 234 yX2_itemAt ∈ z_tbl := z_mem 675 (by decide +kernel) (by decide +kernel)
theorem lk_Fp_237 : Cond.methodLink RX6 237 yX4_burdenBy ∈ z_tbl := z_mem 676 (by decide +kernel) (by decide +kernel)
theorem lk_Fp_240 : Cond.methodLink RX6 240 yX2_begin ∈ z_tbl := z_mem 681 (by decide +kernel) (by decide +kernel)
theorem lk_Fp_243 : Cond.methodLink RX6 243 yX2_isMissing ∈ z_tbl := z_mem 689 (by decide +kernel) (by decide +kernel)
theorem lk_Fp_246 : Cond.methodLink RX6 246 yX2_size ∈ z_tbl := z_mem 690 (by decide +kernel) (by decide +kernel)
theorem lk_Fp_247 : Cond.methodLink RX6 247 yX2_end ∈ z_tbl := z_mem 694 (by decide +kernel) (by decide +kernel)
theorem lk_Fp_250 : Cond.methodLink RX6 250 yX2_put ∈ z_tbl := z_mem 702 (by decide +kernel) (by decide +kernel)
end
section
/-! TABLES: the reference -/
def tb_Mo_in : List (Nat × zI) := [(0, (.lload_n 0, (1, [0]))), (1, (.lload_n 2, (2, [2]))), (2, (.lcmp, (3, []))), (3, (.ifCond .lt 14, (6, [17]))), (6, (.lload_n 0, (7, [0]))), (7, (.lload 4, (9, [4]))), (9, (.lcmp, (10, []))), (10, (.ifCond .gt 7, (13, [17]))), (13, (.iconst 1, (14, []))), (14, (.goto 4, (17, [18]))), (17, (.iconst 0, (18, []))), (18, (.ireturn, (19, [])))]
abbrev m_Mo_in : zM := (yX7_in, (cX7_in, (6, (some .boolean, (0, 0)))))
set_option maxRecDepth 20000 in
theorem tk_Mo_in : tb_Mo_in.all (z_ent m_Mo_in.2.1 m_Mo_in.2.2.1) = true := by decide +kernel
theorem ys_Mo_in : z_yS m_Mo_in 3 := ⟨⟨⟨by decide +kernel, by decide +kernel, by decide +kernel⟩, z_mem 56 (by decide +kernel) (by decide +kernel), z_mem 800 (by decide +kernel) (by decide +kernel)⟩, z_mem 799 (by decide +kernel) (by decide +kernel)⟩
def tb_Mo_isSum : List (Nat × zI) := [(0, (.lload_n 0, (1, [0]))), (1, (.lconst 0, (2, [0]))), (2, (.ldc2_w 53, (5, []))), (5, (.invokestatic 55, (8, []))), (8, (.ireturn, (9, [])))]
abbrev m_Mo_isSum : zM := (yX7_isSum, (cX7_isSum, (2, (some .boolean, (1, 25)))))
set_option maxRecDepth 20000 in
theorem tk_Mo_isSum : tb_Mo_isSum.all (z_ent m_Mo_isSum.2.1 m_Mo_isSum.2.2.1) = true := by decide +kernel
theorem ys_Mo_isSum : z_yS m_Mo_isSum 1 := ⟨⟨⟨by decide +kernel, by decide +kernel, by decide +kernel⟩, z_mem 56 (by decide +kernel) (by decide +kernel), z_mem 796 (by decide +kernel) (by decide +kernel)⟩, z_mem 795 (by decide +kernel) (by decide +kernel)⟩
def tb_Mo_isGuest : List (Nat × zI) := [(0, (.iload_n 1, (1, [1]))), (1, (.i2l, (2, []))), (2, (.lconst 0, (3, [0]))), (3, (.aload_n 0, (4, [0]))), (4, (.getfield 59, (7, []))), (7, (.iconst 1, (8, []))), (8, (.isub, (9, []))), (9, (.i2l, (10, []))), (10, (.invokestatic 55, (13, []))), (13, (.ireturn, (14, [])))]
abbrev m_Mo_isGuest : zM := (yX7_isGuest, (cX7_isGuest, (2, (some .boolean, (1, 25)))))
set_option maxRecDepth 20000 in
theorem tk_Mo_isGuest : tb_Mo_isGuest.all (z_ent m_Mo_isGuest.2.1 m_Mo_isGuest.2.2.1) = true := by decide +kernel
theorem yv_Mo_isGuest : z_yV m_Mo_isGuest 1 7 := ⟨⟨⟨by decide +kernel, by decide +kernel, by decide +kernel⟩, z_mem 56 (by decide +kernel) (by decide +kernel), z_mem 818 (by decide +kernel) (by decide +kernel)⟩, z_mem 817 (by decide +kernel) (by decide +kernel), z_mem 23 (by decide +kernel) (by decide +kernel), TX7, 23, rfl⟩
def tb_Mo_has : List (Nat × zI) := [(0, (.iload_n 0, (1, [0]))), (1, (.iload_n 1, (2, [1]))), (2, (.ishr, (3, []))), (3, (.iconst 1, (4, []))), (4, (.iand, (5, []))), (5, (.iconst 1, (6, []))), (6, (.if_icmp .ne 7, (9, [13]))), (9, (.iconst 1, (10, []))), (10, (.goto 4, (13, [14]))), (13, (.iconst 0, (14, []))), (14, (.ireturn, (15, [])))]
abbrev m_Mo_has : zM := (yX7_has, (cX7_has, (2, (some .boolean, (0, 0)))))
set_option maxRecDepth 20000 in
theorem tk_Mo_has : tb_Mo_has.all (z_ent m_Mo_has.2.1 m_Mo_has.2.2.1) = true := by decide +kernel
theorem ys_Mo_has : z_yS m_Mo_has 2 := ⟨⟨⟨by decide +kernel, by decide +kernel, by decide +kernel⟩, z_mem 56 (by decide +kernel) (by decide +kernel), z_mem 900 (by decide +kernel) (by decide +kernel)⟩, z_mem 899 (by decide +kernel) (by decide +kernel)⟩
def tb_Mo_ones : List (Nat × zI) := [(0, (.iconst 0, (1, []))), (1, (.istore_n 1, (2, [1]))), (2, (.iload_n 0, (3, [0]))), (3, (.istore_n 2, (4, [2]))), (4, (.iload_n 2, (5, [2]))), (5, (.ifCond .eq 15, (8, [20]))), (8, (.iinc 1 1, (11, [1]))), (11, (.iload_n 2, (12, [2]))), (12, (.iload_n 2, (13, [2]))), (13, (.iconst 1, (14, []))), (14, (.isub, (15, []))), (15, (.iand, (16, []))), (16, (.istore_n 2, (17, [2]))), (17, (.goto (-13), (20, [4]))), (20, (.iload_n 1, (21, [1]))), (21, (.ireturn, (22, [])))]
abbrev m_Mo_ones : zM := (yX7_ones, (cX7_ones, (3, (some .int, (0, 0)))))
set_option maxRecDepth 20000 in
theorem tk_Mo_ones : tb_Mo_ones.all (z_ent m_Mo_ones.2.1 m_Mo_ones.2.2.1) = true := by decide +kernel
theorem ys_Mo_ones : z_yS m_Mo_ones 1 := ⟨⟨⟨by decide +kernel, by decide +kernel, by decide +kernel⟩, z_mem 56 (by decide +kernel) (by decide +kernel), z_mem 923 (by decide +kernel) (by decide +kernel)⟩, z_mem 922 (by decide +kernel) (by decide +kernel)⟩
def tb_Mo_weight : List (Nat × zI) := [(0, (.iload_n 1, (1, [1]))), (1, (.i2l, (2, []))), (2, (.invokestatic 63, (5, []))), (5, (.ifCond .eq 15, (8, [20]))), (8, (.iload_n 2, (9, [2]))), (9, (.i2l, (10, []))), (10, (.lconst 0, (11, [0]))), (11, (.ldc2_w 67, (14, []))), (14, (.invokestatic 55, (17, []))), (17, (.ifCond .ne 5, (20, [22]))), (20, (.iconst (-1), (21, []))), (21, (.ireturn, (22, []))), (22, (.aload_n 0, (23, [0]))), (23, (.getfield 7, (26, []))), (26, (.iload_n 1, (27, [1]))), (27, (.iaload, (28, []))), (28, (.istore_n 3, (29, [3]))), (29, (.aload_n 0, (30, [0]))), (30, (.getfield 7, (33, []))), (33, (.iload_n 1, (34, [1]))), (34, (.iload_n 2, (35, [2]))), (35, (.iastore, (36, []))), (36, (.iload_n 3, (37, [3]))), (37, (.ireturn, (38, [])))]
abbrev m_Mo_weight : zM := (yX7_weight, (cX7_weight, (4, (some .int, (2, 46)))))
set_option maxRecDepth 20000 in
theorem tk_Mo_weight : tb_Mo_weight.all (z_ent m_Mo_weight.2.1 m_Mo_weight.2.2.1) = true := by decide +kernel
theorem yv_Mo_weight : z_yV m_Mo_weight 2 7 := ⟨⟨⟨by decide +kernel, by decide +kernel, by decide +kernel⟩, z_mem 56 (by decide +kernel) (by decide +kernel), z_mem 793 (by decide +kernel) (by decide +kernel)⟩, z_mem 791 (by decide +kernel) (by decide +kernel), z_mem 792 (by decide +kernel) (by decide +kernel), TX7, 23, rfl⟩
def tb_Mo_add : List (Nat × zI) := [(0, (.aload_n 0, (1, [0]))), (1, (.getfield 13, (4, []))), (4, (.aload_n 0, (5, [0]))), (5, (.getfield 59, (8, []))), (8, (.iload_n 1, (9, [1]))), (9, (.iastore, (10, []))), (10, (.aload_n 0, (11, [0]))), (11, (.getfield 16, (14, []))), (14, (.aload_n 0, (15, [0]))), (15, (.getfield 59, (18, []))), (18, (.iload_n 2, (19, [2]))), (19, (.iastore, (20, []))), (20, (.aload_n 0, (21, [0]))), (21, (.dup, (22, []))), (22, (.getfield 59, (25, []))), (25, (.iconst 1, (26, []))), (26, (.iadd, (27, []))), (27, (.putfield 59, (30, []))), (30, (.return_, (31, [])))]
abbrev m_Mo_add : zM := (yX7_add, (cX7_add, (3, (none, (0, 0)))))
set_option maxRecDepth 20000 in
theorem tk_Mo_add : tb_Mo_add.all (z_ent m_Mo_add.2.1 m_Mo_add.2.2.1) = true := by decide +kernel
theorem yv_Mo_add : z_yV m_Mo_add 2 7 := ⟨⟨⟨by decide +kernel, by decide +kernel, by decide +kernel⟩, z_mem 56 (by decide +kernel) (by decide +kernel), z_mem 810 (by decide +kernel) (by decide +kernel)⟩, z_mem 809 (by decide +kernel) (by decide +kernel), z_mem 22 (by decide +kernel) (by decide +kernel), TX7, 23, rfl⟩
def tb_Mo_guest : List (Nat × zI) := [(0, (.iload_n 1, (1, [1]))), (1, (.i2l, (2, []))), (2, (.lconst 0, (3, [0]))), (3, (.ldc2_w 69, (6, []))), (6, (.invokestatic 55, (9, []))), (9, (.ifCond .ne 5, (12, [14]))), (12, (.iconst (-1), (13, []))), (13, (.ireturn, (14, []))), (14, (.aload_n 0, (15, [0]))), (15, (.getfield 59, (18, []))), (18, (.bipush 9, (20, []))), (20, (.if_icmp .ne 6, (23, [26]))), (23, (.bipush (-3), (25, []))), (25, (.ireturn, (26, []))), (26, (.aload_n 0, (27, [0]))), (27, (.iload_n 1, (28, [1]))), (28, (.iconst 0, (29, []))), (29, (.invokevirtual 71, (32, []))), (32, (.aload_n 0, (33, [0]))), (33, (.getfield 59, (36, []))), (36, (.iconst 1, (37, []))), (37, (.isub, (38, []))), (38, (.ireturn, (39, [])))]
abbrev m_Mo_guest : zM := (yX7_guest, (cX7_guest, (2, (some .int, (1, 25)))))
set_option maxRecDepth 20000 in
theorem tk_Mo_guest : tb_Mo_guest.all (z_ent m_Mo_guest.2.1 m_Mo_guest.2.2.1) = true := by decide +kernel
theorem yv_Mo_guest : z_yV m_Mo_guest 1 7 := ⟨⟨⟨by decide +kernel, by decide +kernel, by decide +kernel⟩, z_mem 56 (by decide +kernel) (by decide +kernel), z_mem 805 (by decide +kernel) (by decide +kernel)⟩, z_mem 803 (by decide +kernel) (by decide +kernel), z_mem 804 (by decide +kernel) (by decide +kernel), TX7, 23, rfl⟩
def tb_Mo_slip : List (Nat × zI) := [(0, (.aload_n 0, (1, [0]))), (1, (.iload_n 1, (2, [1]))), (2, (.invokevirtual 75, (5, []))), (5, (.ifCond .eq 11, (8, [16]))), (8, (.iload_n 2, (9, [2]))), (9, (.i2l, (10, []))), (10, (.invokestatic 63, (13, []))), (13, (.ifCond .ne 5, (16, [18]))), (16, (.iconst (-1), (17, []))), (17, (.ireturn, (18, []))), (18, (.aload_n 0, (19, [0]))), (19, (.getfield 13, (22, []))), (22, (.iload_n 1, (23, [1]))), (23, (.iaload, (24, []))), (24, (.iconst 2, (25, []))), (25, (.if_icmp .ne 10, (28, [35]))), (28, (.iload_n 2, (29, [2]))), (29, (.ifCond .eq 6, (32, [35]))), (32, (.bipush (-2), (34, []))), (34, (.ireturn, (35, []))), (35, (.aload_n 0, (36, [0]))), (36, (.getfield 16, (39, []))), (39, (.iload_n 1, (40, [1]))), (40, (.iaload, (41, []))), (41, (.istore_n 3, (42, [3]))), (42, (.aload_n 0, (43, [0]))), (43, (.getfield 16, (46, []))), (46, (.iload_n 1, (47, [1]))), (47, (.iload_n 2, (48, [2]))), (48, (.iastore, (49, []))), (49, (.iload_n 3, (50, [3]))), (50, (.ireturn, (51, [])))]
abbrev m_Mo_slip : zM := (yX7_slip, (cX7_slip, (4, (some .int, (2, 46)))))
set_option maxRecDepth 20000 in
theorem tk_Mo_slip : tb_Mo_slip.all (z_ent m_Mo_slip.2.1 m_Mo_slip.2.2.1) = true := by decide +kernel
theorem yv_Mo_slip : z_yV m_Mo_slip 2 7 := ⟨⟨⟨by decide +kernel, by decide +kernel, by decide +kernel⟩, z_mem 56 (by decide +kernel) (by decide +kernel), z_mem 814 (by decide +kernel) (by decide +kernel)⟩, z_mem 812 (by decide +kernel) (by decide +kernel), z_mem 813 (by decide +kernel) (by decide +kernel), TX7, 23, rfl⟩
def tb_Mo_allWeights : List (Nat × zI) := [(0, (.iconst 0, (1, []))), (1, (.istore_n 1, (2, [1]))), (2, (.iconst 0, (3, []))), (3, (.istore_n 2, (4, [2]))), (4, (.iload_n 2, (5, [2]))), (5, (.bipush 21, (7, []))), (7, (.if_icmp .ge 18, (10, [25]))), (10, (.iload_n 1, (11, [1]))), (11, (.aload_n 0, (12, [0]))), (12, (.getfield 7, (15, []))), (15, (.iload_n 2, (16, [2]))), (16, (.iaload, (17, []))), (17, (.iadd, (18, []))), (18, (.istore_n 1, (19, [1]))), (19, (.iinc 2 1, (22, [2]))), (22, (.goto (-18), (25, [4]))), (25, (.iload_n 1, (26, [1]))), (26, (.ireturn, (27, [])))]
abbrev m_Mo_allWeights : zM := (yX7_allWeights, (cX7_allWeights, (3, (some .int, (0, 0)))))
set_option maxRecDepth 20000 in
theorem tk_Mo_allWeights : tb_Mo_allWeights.all (z_ent m_Mo_allWeights.2.1 m_Mo_allWeights.2.2.1) = true := by decide +kernel
theorem yv_Mo_allWeights : z_yV m_Mo_allWeights 0 7 := ⟨⟨⟨by decide +kernel, by decide +kernel, by decide +kernel⟩, z_mem 56 (by decide +kernel) (by decide +kernel), z_mem 826 (by decide +kernel) (by decide +kernel)⟩, z_mem 825 (by decide +kernel) (by decide +kernel), z_mem 24 (by decide +kernel) (by decide +kernel), TX7, 23, rfl⟩
def tb_Mo_write : List (Nat × zI) := [(0, (.iload_n 1, (1, [1]))), (1, (.i2l, (2, []))), (2, (.invokestatic 63, (5, []))), (5, (.ifCond .ne 5, (8, [10]))), (8, (.iconst (-1), (9, []))), (9, (.ireturn, (10, []))), (10, (.aload_n 0, (11, [0]))), (11, (.invokevirtual 79, (14, []))), (14, (.istore_n 2, (15, [2]))), (15, (.iload_n 2, (16, [2]))), (16, (.ifCond .ne 6, (19, [22]))), (19, (.bipush (-2), (21, []))), (21, (.ireturn, (22, []))), (22, (.iconst 0, (23, []))), (23, (.istore_n 3, (24, [3]))), (24, (.iconst 0, (25, []))), (25, (.istore 4, (27, [4]))), (27, (.iload 4, (29, [4]))), (29, (.bipush 21, (31, []))), (31, (.if_icmp .ge 22, (34, [53]))), (34, (.iload_n 3, (35, [3]))), (35, (.iload 4, (37, [4]))), (37, (.aload_n 0, (38, [0]))), (38, (.getfield 7, (41, []))), (41, (.iload 4, (43, [4]))), (43, (.iaload, (44, []))), (44, (.imul, (45, []))), (45, (.iadd, (46, []))), (46, (.istore_n 3, (47, [3]))), (47, (.iinc 4 1, (50, [4]))), (50, (.goto (-23), (53, [27]))), (53, (.iload_n 3, (54, [3]))), (54, (.iload_n 2, (55, [2]))), (55, (.idiv, (56, []))), (56, (.istore_n 3, (57, [3]))), (57, (.iconst 0, (58, []))), (58, (.istore 4, (60, [4]))), (60, (.iconst 0, (61, []))), (61, (.istore 5, (63, [5]))), (63, (.iload 5, (65, [5]))), (65, (.aload_n 0, (66, [0]))), (66, (.getfield 59, (69, []))), (69, (.if_icmp .ge 94, (72, [163]))), (72, (.aload_n 0, (73, [0]))), (73, (.getfield 13, (76, []))), (76, (.iload 5, (78, [5]))), (78, (.iaload, (79, []))), (79, (.iconst 1, (80, []))), (80, (.if_icmp .ne 7, (83, [87]))), (83, (.iload_n 3, (84, [3]))), (84, (.goto 40, (87, [124]))), (87, (.aload_n 0, (88, [0]))), (88, (.getfield 13, (91, []))), (91, (.iload 5, (93, [5]))), (93, (.iaload, (94, []))), (94, (.iconst 2, (95, []))), (95, (.if_icmp .ne 7, (98, [102]))), (98, (.iconst 0, (99, []))), (99, (.goto 25, (102, [124]))), (102, (.aload_n 0, (103, [0]))), (103, (.getfield 13, (106, []))), (106, (.iload 5, (108, [5]))), (108, (.iaload, (109, []))), (109, (.iconst 3, (110, []))), (110, (.if_icmp .ne 7, (113, [117]))), (113, (.iload_n 1, (114, [1]))), (114, (.goto 10, (117, [124]))), (117, (.aload_n 0, (118, [0]))), (118, (.getfield 16, (121, []))), (121, (.iload 5, (123, [5]))), (123, (.iaload, (124, []))), (124, (.istore 6, (126, [6]))), (126, (.iload 4, (128, [4]))), (128, (.iload 6, (130, [6]))), (130, (.aload_n 0, (131, [0]))), (131, (.getfield 16, (134, []))), (134, (.iload 5, (136, [5]))), (136, (.iaload, (137, []))), (137, (.if_icmp .ne 7, (140, [144]))), (140, (.iconst 0, (141, []))), (141, (.goto 4, (144, [145]))), (144, (.iconst 1, (145, []))), (145, (.iadd, (146, []))), (146, (.istore 4, (148, [4]))), (148, (.aload_n 0, (149, [0]))), (149, (.getfield 16, (152, []))), (152, (.iload 5, (154, [5]))), (154, (.iload 6, (156, [6]))), (156, (.iastore, (157, []))), (157, (.iinc 5 1, (160, [5]))), (160, (.goto (-97), (163, [63]))), (163, (.iload 4, (165, [4]))), (165, (.ireturn, (166, [])))]
abbrev m_Mo_write : zM := (yX7_write, (cX7_write, (7, (some .int, (2, 46)))))
set_option maxRecDepth 20000 in
theorem tk_Mo_write : tb_Mo_write.all (z_ent m_Mo_write.2.1 m_Mo_write.2.2.1) = true := by decide +kernel
theorem yv_Mo_write : z_yV m_Mo_write 1 7 := ⟨⟨⟨by decide +kernel, by decide +kernel, by decide +kernel⟩, z_mem 56 (by decide +kernel) (by decide +kernel), z_mem 822 (by decide +kernel) (by decide +kernel)⟩, z_mem 820 (by decide +kernel) (by decide +kernel), z_mem 821 (by decide +kernel) (by decide +kernel), TX7, 23, rfl⟩
def tb_Mo_told : List (Nat × zI) := [(0, (.aload_n 0, (1, [0]))), (1, (.iload_n 1, (2, [1]))), (2, (.invokevirtual 75, (5, []))), (5, (.ifCond .eq 13, (8, [18]))), (8, (.iload_n 2, (9, [2]))), (9, (.i2l, (10, []))), (10, (.lconst 0, (11, [0]))), (11, (.lconst 1, (12, [1]))), (12, (.invokestatic 55, (15, []))), (15, (.ifCond .ne 7, (18, [22]))), (18, (.iconst (-1), (19, []))), (19, (.goto 22, (22, [41]))), (22, (.iload_n 2, (23, [2]))), (23, (.ifCond .ne 12, (26, [35]))), (26, (.aload_n 0, (27, [0]))), (27, (.getfield 13, (30, []))), (30, (.iload_n 1, (31, [1]))), (31, (.iaload, (32, []))), (32, (.goto 9, (35, [41]))), (35, (.aload_n 0, (36, [0]))), (36, (.getfield 16, (39, []))), (39, (.iload_n 1, (40, [1]))), (40, (.iaload, (41, []))), (41, (.ireturn, (42, [])))]
abbrev m_Mo_told : zM := (yX7_told, (cX7_told, (3, (some .int, (2, 46)))))
set_option maxRecDepth 20000 in
theorem tk_Mo_told : tb_Mo_told.all (z_ent m_Mo_told.2.1 m_Mo_told.2.2.1) = true := by decide +kernel
theorem yv_Mo_told : z_yV m_Mo_told 2 7 := ⟨⟨⟨by decide +kernel, by decide +kernel, by decide +kernel⟩, z_mem 56 (by decide +kernel) (by decide +kernel), z_mem 830 (by decide +kernel) (by decide +kernel)⟩, z_mem 828 (by decide +kernel) (by decide +kernel), z_mem 829 (by decide +kernel) (by decide +kernel), TX7, 23, rfl⟩
def tb_Mo_rule : List (Nat × zI) := [(0, (.iload_n 1, (1, [1]))), (1, (.i2l, (2, []))), (2, (.lconst 0, (3, [0]))), (3, (.lconst 1, (4, [1]))), (4, (.invokestatic 55, (7, []))), (7, (.ifCond .eq 25, (10, [32]))), (10, (.iload_n 2, (11, [2]))), (11, (.i2l, (12, []))), (12, (.lconst 0, (13, [0]))), (13, (.iload_n 1, (14, [1]))), (14, (.ifCond .ne 9, (17, [23]))), (17, (.ldc2_w 69, (20, []))), (20, (.goto 6, (23, [26]))), (23, (.ldc2_w 83, (26, []))), (26, (.invokestatic 55, (29, []))), (29, (.ifCond .ne 5, (32, [34]))), (32, (.iconst (-1), (33, []))), (33, (.ireturn, (34, []))), (34, (.aload_n 0, (35, [0]))), (35, (.getfield 19, (38, []))), (38, (.iload_n 1, (39, [1]))), (39, (.iaload, (40, []))), (40, (.istore_n 3, (41, [3]))), (41, (.aload_n 0, (42, [0]))), (42, (.getfield 19, (45, []))), (45, (.iload_n 1, (46, [1]))), (46, (.iload_n 2, (47, [2]))), (47, (.iastore, (48, []))), (48, (.iload_n 3, (49, [3]))), (49, (.ireturn, (50, [])))]
abbrev m_Mo_rule : zM := (yX7_rule, (cX7_rule, (4, (some .int, (1, 25)))))
set_option maxRecDepth 20000 in
theorem tk_Mo_rule : tb_Mo_rule.all (z_ent m_Mo_rule.2.1 m_Mo_rule.2.2.1) = true := by decide +kernel
theorem yv_Mo_rule : z_yV m_Mo_rule 2 7 := ⟨⟨⟨by decide +kernel, by decide +kernel, by decide +kernel⟩, z_mem 56 (by decide +kernel) (by decide +kernel), z_mem 834 (by decide +kernel) (by decide +kernel)⟩, z_mem 832 (by decide +kernel) (by decide +kernel), z_mem 833 (by decide +kernel) (by decide +kernel), TX7, 23, rfl⟩
def tb_Mo_count : List (Nat × zI) := [(0, (.iconst 0, (1, []))), (1, (.istore_n 2, (2, [2]))), (2, (.iconst 0, (3, []))), (3, (.istore_n 3, (4, [3]))), (4, (.iload_n 3, (5, [3]))), (5, (.bipush 21, (7, []))), (7, (.if_icmp .ge 26, (10, [33]))), (10, (.iload_n 2, (11, [2]))), (11, (.aload_n 0, (12, [0]))), (12, (.getfield 7, (15, []))), (15, (.iload_n 3, (16, [3]))), (16, (.iaload, (17, []))), (17, (.ifCond .le 7, (20, [24]))), (20, (.iconst 1, (21, []))), (21, (.goto 4, (24, [25]))), (24, (.iconst 0, (25, []))), (25, (.iadd, (26, []))), (26, (.istore_n 2, (27, [2]))), (27, (.iinc 3 1, (30, [3]))), (30, (.goto (-26), (33, [4]))), (33, (.iload_n 1, (34, [1]))), (34, (.ifCond .ne 10, (37, [44]))), (37, (.aload_n 0, (38, [0]))), (38, (.getfield 59, (41, []))), (41, (.goto 37, (44, [78]))), (44, (.iload_n 1, (45, [1]))), (45, (.iconst 1, (46, []))), (46, (.if_icmp .ne 7, (49, [53]))), (49, (.iload_n 2, (50, [2]))), (50, (.goto 28, (53, [78]))), (53, (.iload_n 1, (54, [1]))), (54, (.iconst 2, (55, []))), (55, (.if_icmp .ne 10, (58, [65]))), (58, (.aload_n 0, (59, [0]))), (59, (.invokevirtual 79, (62, []))), (62, (.goto 16, (65, [78]))), (65, (.iload_n 1, (66, [1]))), (66, (.iconst 3, (67, []))), (67, (.if_icmp .ne 10, (70, [77]))), (70, (.aload_n 0, (71, [0]))), (71, (.getfield 85, (74, []))), (74, (.goto 4, (77, [78]))), (77, (.iconst (-1), (78, []))), (78, (.ireturn, (79, [])))]
abbrev m_Mo_count : zM := (yX7_count, (cX7_count, (4, (some .int, (1, 22)))))
set_option maxRecDepth 20000 in
theorem tk_Mo_count : tb_Mo_count.all (z_ent m_Mo_count.2.1 m_Mo_count.2.2.1) = true := by decide +kernel
theorem yv_Mo_count : z_yV m_Mo_count 1 7 := ⟨⟨⟨by decide +kernel, by decide +kernel, by decide +kernel⟩, z_mem 56 (by decide +kernel) (by decide +kernel), z_mem 839 (by decide +kernel) (by decide +kernel)⟩, z_mem 837 (by decide +kernel) (by decide +kernel), z_mem 838 (by decide +kernel) (by decide +kernel), TX7, 23, rfl⟩
def tb_Mo_type : List (Nat × zI) := [(0, (.iload_n 3, (1, [3]))), (1, (.i2l, (2, []))), (2, (.lconst 1, (3, [1]))), (3, (.ldc2_w 88, (6, []))), (6, (.invokestatic 55, (9, []))), (9, (.ifCond .ne 5, (12, [14]))), (12, (.iconst (-1), (13, []))), (13, (.ireturn, (14, []))), (14, (.iload_n 3, (15, [3]))), (15, (.iconst 1, (16, []))), (16, (.isub, (17, []))), (17, (.istore 4, (19, [4]))), (19, (.iload 4, (21, [4]))), (21, (.ifCond .lt 34, (24, [55]))), (24, (.lload_n 1, (25, [1]))), (25, (.bipush 8, (27, []))), (27, (.iload 4, (29, [4]))), (29, (.imul, (30, []))), (30, (.lshr, (31, []))), (31, (.ldc2_w 90, (34, []))), (34, (.land, (35, []))), (35, (.ldc2_w 92, (38, []))), (38, (.ldc2_w 94, (41, []))), (41, (.invokestatic 55, (44, []))), (44, (.ifCond .ne 5, (47, [49]))), (47, (.iconst (-1), (48, []))), (48, (.ireturn, (49, []))), (49, (.iinc 4 (-1), (52, [4]))), (52, (.goto (-33), (55, [19]))), (55, (.aload_n 0, (56, [0]))), (56, (.getfield 96, (59, []))), (59, (.iload_n 3, (60, [3]))), (60, (.iadd, (61, []))), (61, (.bipush 80, (63, []))), (63, (.if_icmp .le 6, (66, [69]))), (66, (.bipush (-3), (68, []))), (68, (.ireturn, (69, []))), (69, (.iload_n 3, (70, [3]))), (70, (.iconst 1, (71, []))), (71, (.isub, (72, []))), (72, (.istore 4, (74, [4]))), (74, (.iload 4, (76, [4]))), (76, (.ifCond .lt 40, (79, [116]))), (79, (.aload_n 0, (80, [0]))), (80, (.getfield 34, (83, []))), (83, (.aload_n 0, (84, [0]))), (84, (.getfield 96, (87, []))), (87, (.lload_n 1, (88, [1]))), (88, (.bipush 8, (90, []))), (90, (.iload 4, (92, [4]))), (92, (.imul, (93, []))), (93, (.lshr, (94, []))), (94, (.ldc2_w 90, (97, []))), (97, (.land, (98, []))), (98, (.l2i, (99, []))), (99, (.iastore, (100, []))), (100, (.aload_n 0, (101, [0]))), (101, (.dup, (102, []))), (102, (.getfield 96, (105, []))), (105, (.iconst 1, (106, []))), (106, (.iadd, (107, []))), (107, (.putfield 96, (110, []))), (110, (.iinc 4 (-1), (113, [4]))), (113, (.goto (-39), (116, [74]))), (116, (.aload_n 0, (117, [0]))), (117, (.getfield 96, (120, []))), (120, (.ireturn, (121, [])))]
abbrev m_Mo_type : zM := (yX7_type, (cX7_type, (5, (some .int, (1, 25)))))
set_option maxRecDepth 20000 in
theorem tk_Mo_type : tb_Mo_type.all (z_ent m_Mo_type.2.1 m_Mo_type.2.2.1) = true := by decide +kernel
theorem yv_Mo_type : z_yV m_Mo_type 2 7 := ⟨⟨⟨by decide +kernel, by decide +kernel, by decide +kernel⟩, z_mem 56 (by decide +kernel) (by decide +kernel), z_mem 843 (by decide +kernel) (by decide +kernel)⟩, z_mem 841 (by decide +kernel) (by decide +kernel), z_mem 842 (by decide +kernel) (by decide +kernel), TX7, 23, rfl⟩
def tb_Mo_nextByte : List (Nat × zI) := [(0, (.aload_n 0, (1, [0]))), (1, (.getfield 99, (4, []))), (4, (.aload_n 0, (5, [0]))), (5, (.getfield 96, (8, []))), (8, (.if_icmp .ge 30, (11, [38]))), (11, (.aload_n 0, (12, [0]))), (12, (.getfield 34, (15, []))), (15, (.aload_n 0, (16, [0]))), (16, (.getfield 99, (19, []))), (19, (.iaload, (20, []))), (20, (.bipush 32, (22, []))), (22, (.if_icmp .ne 16, (25, [38]))), (25, (.aload_n 0, (26, [0]))), (26, (.dup, (27, []))), (27, (.getfield 99, (30, []))), (30, (.iconst 1, (31, []))), (31, (.iadd, (32, []))), (32, (.putfield 99, (35, []))), (35, (.goto (-35), (38, [0]))), (38, (.aload_n 0, (39, [0]))), (39, (.getfield 99, (42, []))), (42, (.aload_n 0, (43, [0]))), (43, (.getfield 96, (46, []))), (46, (.if_icmp .ge 15, (49, [61]))), (49, (.aload_n 0, (50, [0]))), (50, (.getfield 34, (53, []))), (53, (.aload_n 0, (54, [0]))), (54, (.getfield 99, (57, []))), (57, (.iaload, (58, []))), (58, (.goto 4, (61, [62]))), (61, (.iconst (-1), (62, []))), (62, (.ireturn, (63, [])))]
abbrev m_Mo_nextByte : zM := (yX7_nextByte, (cX7_nextByte, (1, (some .int, (0, 0)))))
set_option maxRecDepth 20000 in
theorem tk_Mo_nextByte : tb_Mo_nextByte.all (z_ent m_Mo_nextByte.2.1 m_Mo_nextByte.2.2.1) = true := by decide +kernel
theorem yv_Mo_nextByte : z_yV m_Mo_nextByte 0 7 := ⟨⟨⟨by decide +kernel, by decide +kernel, by decide +kernel⟩, z_mem 56 (by decide +kernel) (by decide +kernel), z_mem 863 (by decide +kernel) (by decide +kernel)⟩, z_mem 862 (by decide +kernel) (by decide +kernel), z_mem 27 (by decide +kernel) (by decide +kernel), TX7, 23, rfl⟩
def tb_Mo_readNumber : List (Nat × zI) := [(0, (.aload_n 0, (1, [0]))), (1, (.invokevirtual 102, (4, []))), (4, (.pop, (5, []))), (5, (.aload_n 0, (6, [0]))), (6, (.getfield 99, (9, []))), (9, (.istore_n 3, (10, [3]))), (10, (.iconst 0, (11, []))), (11, (.istore 4, (13, [4]))), (13, (.aload_n 0, (14, [0]))), (14, (.getfield 99, (17, []))), (17, (.aload_n 0, (18, [0]))), (18, (.getfield 96, (21, []))), (21, (.if_icmp .ge 71, (24, [92]))), (24, (.aload_n 0, (25, [0]))), (25, (.getfield 34, (28, []))), (28, (.aload_n 0, (29, [0]))), (29, (.getfield 99, (32, []))), (32, (.iaload, (33, []))), (33, (.i2l, (34, []))), (34, (.ldc2_w 105, (37, []))), (37, (.ldc2_w 107, (40, []))), (40, (.invokestatic 55, (43, []))), (43, (.ifCond .eq 49, (46, [92]))), (46, (.iload 4, (48, [4]))), (48, (.sipush 999, (51, []))), (51, (.if_icmp .le 8, (54, [59]))), (54, (.iload 4, (56, [4]))), (56, (.goto 21, (59, [77]))), (59, (.bipush 10, (61, []))), (61, (.iload 4, (63, [4]))), (63, (.imul, (64, []))), (64, (.aload_n 0, (65, [0]))), (65, (.getfield 34, (68, []))), (68, (.aload_n 0, (69, [0]))), (69, (.getfield 99, (72, []))), (72, (.iaload, (73, []))), (73, (.iadd, (74, []))), (74, (.bipush 48, (76, []))), (76, (.isub, (77, []))), (77, (.istore 4, (79, [4]))), (79, (.aload_n 0, (80, [0]))), (80, (.dup, (81, []))), (81, (.getfield 99, (84, []))), (84, (.iconst 1, (85, []))), (85, (.iadd, (86, []))), (86, (.putfield 99, (89, []))), (89, (.goto (-76), (92, [13]))), (92, (.aload_n 0, (93, [0]))), (93, (.getfield 99, (96, []))), (96, (.iload_n 3, (97, [3]))), (97, (.if_icmp .ne 5, (100, [102]))), (100, (.iconst (-1), (101, []))), (101, (.ireturn, (102, []))), (102, (.iload 4, (104, [4]))), (104, (.i2l, (105, []))), (105, (.iload_n 1, (106, [1]))), (106, (.i2l, (107, []))), (107, (.iload_n 2, (108, [2]))), (108, (.i2l, (109, []))), (109, (.invokestatic 55, (112, []))), (112, (.ifCond .ne 10, (115, [122]))), (115, (.aload_n 0, (116, [0]))), (116, (.iload_n 3, (117, [3]))), (117, (.putfield 99, (120, []))), (120, (.iconst (-1), (121, []))), (121, (.ireturn, (122, []))), (122, (.iload 4, (124, [4]))), (124, (.ireturn, (125, [])))]
abbrev m_Mo_readNumber : zM := (yX7_readNumber, (cX7_readNumber, (5, (some .int, (1, 25)))))
set_option maxRecDepth 20000 in
theorem tk_Mo_readNumber : tb_Mo_readNumber.all (z_ent m_Mo_readNumber.2.1 m_Mo_readNumber.2.2.1) = true := by decide +kernel
theorem yv_Mo_readNumber : z_yV m_Mo_readNumber 2 7 := ⟨⟨⟨by decide +kernel, by decide +kernel, by decide +kernel⟩, z_mem 56 (by decide +kernel) (by decide +kernel), z_mem 867 (by decide +kernel) (by decide +kernel)⟩, z_mem 866 (by decide +kernel) (by decide +kernel), z_mem 28 (by decide +kernel) (by decide +kernel), TX7, 23, rfl⟩
def tb_Mo_readCourse : List (Nat × zI) := [(0, (.aload_n 0, (1, [0]))), (1, (.invokevirtual 102, (4, []))), (4, (.pop, (5, []))), (5, (.aload_n 0, (6, [0]))), (6, (.getfield 99, (9, []))), (9, (.istore_n 1, (10, [1]))), (10, (.aload_n 0, (11, [0]))), (11, (.iconst 0, (12, []))), (12, (.bipush 20, (14, []))), (14, (.invokevirtual 109, (17, []))), (17, (.istore_n 2, (18, [2]))), (18, (.iload_n 2, (19, [2]))), (19, (.ifCond .ge 5, (22, [24]))), (22, (.iconst 0, (23, []))), (23, (.ireturn, (24, []))), (24, (.aload_n 0, (25, [0]))), (25, (.getfield 37, (28, []))), (28, (.iload_n 2, (29, [2]))), (29, (.iaload, (30, []))), (30, (.ifCond .le 10, (33, [40]))), (33, (.aload_n 0, (34, [0]))), (34, (.iload_n 1, (35, [1]))), (35, (.putfield 99, (38, []))), (38, (.iconst 0, (39, []))), (39, (.ireturn, (40, []))), (40, (.aload_n 0, (41, [0]))), (41, (.invokevirtual 102, (44, []))), (44, (.bipush 120, (46, []))), (46, (.if_icmp .eq 5, (49, [51]))), (49, (.iconst 0, (50, []))), (50, (.ireturn, (51, []))), (51, (.aload_n 0, (52, [0]))), (52, (.dup, (53, []))), (53, (.getfield 99, (56, []))), (56, (.iconst 1, (57, []))), (57, (.iadd, (58, []))), (58, (.putfield 99, (61, []))), (61, (.aload_n 0, (62, [0]))), (62, (.iconst 1, (63, []))), (63, (.bipush 99, (65, []))), (65, (.invokevirtual 109, (68, []))), (68, (.istore_n 3, (69, [3]))), (69, (.aload_n 0, (70, [0]))), (70, (.getfield 37, (73, []))), (73, (.iload_n 2, (74, [2]))), (74, (.iload_n 3, (75, [3]))), (75, (.ifCond .ge 7, (78, [82]))), (78, (.iconst 0, (79, []))), (79, (.goto 4, (82, [83]))), (82, (.iload_n 3, (83, [3]))), (83, (.iastore, (84, []))), (84, (.iload_n 3, (85, [3]))), (85, (.ifCond .le 7, (88, [92]))), (88, (.iconst 1, (89, []))), (89, (.goto 4, (92, [93]))), (92, (.iconst 0, (93, []))), (93, (.ireturn, (94, [])))]
abbrev m_Mo_readCourse : zM := (yX7_readCourse, (cX7_readCourse, (4, (some .boolean, (2, 49)))))
set_option maxRecDepth 20000 in
theorem tk_Mo_readCourse : tb_Mo_readCourse.all (z_ent m_Mo_readCourse.2.1 m_Mo_readCourse.2.2.1) = true := by decide +kernel
theorem yv_Mo_readCourse : z_yV m_Mo_readCourse 0 7 := ⟨⟨⟨by decide +kernel, by decide +kernel, by decide +kernel⟩, z_mem 56 (by decide +kernel) (by decide +kernel), z_mem 859 (by decide +kernel) (by decide +kernel)⟩, z_mem 858 (by decide +kernel) (by decide +kernel), z_mem 26 (by decide +kernel) (by decide +kernel), TX7, 23, rfl⟩
def tb_Mo_readSupper : List (Nat × zI) := [(0, (.aload_n 0, (1, [0]))), (1, (.iconst 0, (2, []))), (2, (.putfield 99, (5, []))), (5, (.iconst 0, (6, []))), (6, (.istore_n 1, (7, [1]))), (7, (.iload_n 1, (8, [1]))), (8, (.bipush 21, (10, []))), (10, (.if_icmp .ge 16, (13, [26]))), (13, (.aload_n 0, (14, [0]))), (14, (.getfield 37, (17, []))), (17, (.iload_n 1, (18, [1]))), (18, (.iconst 0, (19, []))), (19, (.iastore, (20, []))), (20, (.iinc 1 1, (23, [1]))), (23, (.goto (-16), (26, [7]))), (26, (.iconst 0, (27, []))), (27, (.istore_n 1, (28, [1]))), (28, (.iload_n 1, (29, [1]))), (29, (.bipush 8, (31, []))), (31, (.if_icmp .ge 53, (34, [84]))), (34, (.aload_n 0, (35, [0]))), (35, (.invokevirtual 113, (38, []))), (38, (.ifCond .ne 5, (41, [43]))), (41, (.iconst 0, (42, []))), (42, (.ireturn, (43, []))), (43, (.aload_n 0, (44, [0]))), (44, (.invokevirtual 102, (47, []))), (47, (.istore_n 2, (48, [2]))), (48, (.iload_n 2, (49, [2]))), (49, (.ifCond .ge 5, (52, [54]))), (52, (.iconst 1, (53, []))), (53, (.ireturn, (54, []))), (54, (.iload_n 2, (55, [2]))), (55, (.bipush 44, (57, []))), (57, (.if_icmp .ne 9, (60, [66]))), (60, (.iload_n 1, (61, [1]))), (61, (.bipush 7, (63, []))), (63, (.if_icmp .ne 5, (66, [68]))), (66, (.iconst 0, (67, []))), (67, (.ireturn, (68, []))), (68, (.aload_n 0, (69, [0]))), (69, (.dup, (70, []))), (70, (.getfield 99, (73, []))), (73, (.iconst 1, (74, []))), (74, (.iadd, (75, []))), (75, (.putfield 99, (78, []))), (78, (.iinc 1 1, (81, [1]))), (81, (.goto (-53), (84, [28]))), (84, (.iconst 0, (85, []))), (85, (.ireturn, (86, [])))]
abbrev m_Mo_readSupper : zM := (yX7_readSupper, (cX7_readSupper, (3, (some .boolean, (3, 72)))))
set_option maxRecDepth 20000 in
theorem tk_Mo_readSupper : tb_Mo_readSupper.all (z_ent m_Mo_readSupper.2.1 m_Mo_readSupper.2.2.1) = true := by decide +kernel
theorem yv_Mo_readSupper : z_yV m_Mo_readSupper 0 7 := ⟨⟨⟨by decide +kernel, by decide +kernel, by decide +kernel⟩, z_mem 56 (by decide +kernel) (by decide +kernel), z_mem 855 (by decide +kernel) (by decide +kernel)⟩, z_mem 854 (by decide +kernel) (by decide +kernel), z_mem 25 (by decide +kernel) (by decide +kernel), TX7, 23, rfl⟩
def tb_Mo_supper : List (Nat × zI) := [(0, (.aload_n 0, (1, [0]))), (1, (.invokevirtual 117, (4, []))), (4, (.istore_n 1, (5, [1]))), (5, (.iload_n 1, (6, [1]))), (6, (.ifCond .ne 8, (9, [14]))), (9, (.aload_n 0, (10, [0]))), (10, (.invokevirtual 102, (13, []))), (13, (.pop, (14, []))), (14, (.aload_n 0, (15, [0]))), (15, (.iconst 0, (16, []))), (16, (.putfield 96, (19, []))), (19, (.iload_n 1, (20, [1]))), (20, (.ifCond .ne 11, (23, [31]))), (23, (.bipush (-20), (25, []))), (25, (.aload_n 0, (26, [0]))), (26, (.getfield 99, (29, []))), (29, (.isub, (30, []))), (30, (.ireturn, (31, []))), (31, (.iconst 0, (32, []))), (32, (.istore_n 2, (33, [2]))), (33, (.iload_n 2, (34, [2]))), (34, (.bipush 21, (36, []))), (36, (.if_icmp .ge 21, (39, [57]))), (39, (.aload_n 0, (40, [0]))), (40, (.getfield 7, (43, []))), (43, (.iload_n 2, (44, [2]))), (44, (.aload_n 0, (45, [0]))), (45, (.getfield 37, (48, []))), (48, (.iload_n 2, (49, [2]))), (49, (.iaload, (50, []))), (50, (.iastore, (51, []))), (51, (.iinc 2 1, (54, [2]))), (54, (.goto (-21), (57, [33]))), (57, (.aload_n 0, (58, [0]))), (58, (.invokevirtual 79, (61, []))), (61, (.ireturn, (62, [])))]
abbrev m_Mo_supper : zM := (yX7_supper, (cX7_supper, (3, (some .int, (4, 94)))))
set_option maxRecDepth 20000 in
theorem tk_Mo_supper : tb_Mo_supper.all (z_ent m_Mo_supper.2.1 m_Mo_supper.2.2.1) = true := by decide +kernel
theorem yv_Mo_supper : z_yV m_Mo_supper 0 7 := ⟨⟨⟨by decide +kernel, by decide +kernel, by decide +kernel⟩, z_mem 56 (by decide +kernel) (by decide +kernel), z_mem 851 (by decide +kernel) (by decide +kernel)⟩, z_mem 849 (by decide +kernel) (by decide +kernel), z_mem 850 (by decide +kernel) (by decide +kernel), TX7, 23, rfl⟩
def tb_Mo_readGuest : List (Nat × zI) := [(0, (.aload_n 0, (1, [0]))), (1, (.invokevirtual 102, (4, []))), (4, (.istore_n 2, (5, [2]))), (5, (.iload_n 2, (6, [2]))), (6, (.bipush 115, (8, []))), (8, (.if_icmp .ne 7, (11, [15]))), (11, (.iconst 0, (12, []))), (12, (.goto 34, (15, [46]))), (15, (.iload_n 2, (16, [2]))), (16, (.bipush 102, (18, []))), (18, (.if_icmp .ne 7, (21, [25]))), (21, (.iconst 1, (22, []))), (22, (.goto 24, (25, [46]))), (25, (.iload_n 2, (26, [2]))), (26, (.bipush 110, (28, []))), (28, (.if_icmp .ne 7, (31, [35]))), (31, (.iconst 2, (32, []))), (32, (.goto 14, (35, [46]))), (35, (.iload_n 2, (36, [2]))), (36, (.bipush 107, (38, []))), (38, (.if_icmp .ne 7, (41, [45]))), (41, (.iconst 3, (42, []))), (42, (.goto 4, (45, [46]))), (45, (.iconst (-1), (46, []))), (46, (.istore_n 3, (47, [3]))), (47, (.iload_n 3, (48, [3]))), (48, (.ifCond .ge 5, (51, [53]))), (51, (.iconst 0, (52, []))), (52, (.ireturn, (53, []))), (53, (.aload_n 0, (54, [0]))), (54, (.dup, (55, []))), (55, (.getfield 99, (58, []))), (58, (.iconst 1, (59, []))), (59, (.iadd, (60, []))), (60, (.putfield 99, (63, []))), (63, (.iconst 0, (64, []))), (64, (.istore 4, (66, [4]))), (66, (.iload_n 3, (67, [3]))), (67, (.iconst 2, (68, []))), (68, (.if_icmp .eq 29, (71, [97]))), (71, (.aload_n 0, (72, [0]))), (72, (.invokevirtual 102, (75, []))), (75, (.i2l, (76, []))), (76, (.ldc2_w 105, (79, []))), (79, (.ldc2_w 107, (82, []))), (82, (.invokestatic 55, (85, []))), (85, (.ifCond .eq 12, (88, [97]))), (88, (.aload_n 0, (89, [0]))), (89, (.iconst 0, (90, []))), (90, (.bipush 20, (92, []))), (92, (.invokevirtual 109, (95, []))), (95, (.istore 4, (97, [4]))), (97, (.aload_n 0, (98, [0]))), (98, (.getfield 37, (101, []))), (101, (.iload_n 1, (102, [1]))), (102, (.iconst 4, (103, []))), (103, (.iload 4, (105, [4]))), (105, (.imul, (106, []))), (106, (.iload_n 3, (107, [3]))), (107, (.iadd, (108, []))), (108, (.iastore, (109, []))), (109, (.iload 4, (111, [4]))), (111, (.ifCond .lt 7, (114, [118]))), (114, (.iconst 1, (115, []))), (115, (.goto 4, (118, [119]))), (118, (.iconst 0, (119, []))), (119, (.ireturn, (120, [])))]
abbrev m_Mo_readGuest : zM := (yX7_readGuest, (cX7_readGuest, (5, (some .boolean, (2, 49)))))
set_option maxRecDepth 20000 in
theorem tk_Mo_readGuest : tb_Mo_readGuest.all (z_ent m_Mo_readGuest.2.1 m_Mo_readGuest.2.2.1) = true := by decide +kernel
theorem yv_Mo_readGuest : z_yV m_Mo_readGuest 1 7 := ⟨⟨⟨by decide +kernel, by decide +kernel, by decide +kernel⟩, z_mem 56 (by decide +kernel) (by decide +kernel), z_mem 881 (by decide +kernel) (by decide +kernel)⟩, z_mem 880 (by decide +kernel) (by decide +kernel), z_mem 30 (by decide +kernel) (by decide +kernel), TX7, 23, rfl⟩
def tb_Mo_readGuests : List (Nat × zI) := [(0, (.aload_n 0, (1, [0]))), (1, (.iconst 0, (2, []))), (2, (.putfield 99, (5, []))), (5, (.iconst 0, (6, []))), (6, (.istore_n 1, (7, [1]))), (7, (.iload_n 1, (8, [1]))), (8, (.bipush 9, (10, []))), (10, (.if_icmp .ge 61, (13, [71]))), (13, (.aload_n 0, (14, [0]))), (14, (.iload_n 1, (15, [1]))), (15, (.invokevirtual 120, (18, []))), (18, (.ifCond .ne 5, (21, [23]))), (21, (.iconst 0, (22, []))), (22, (.ireturn, (23, []))), (23, (.aload_n 0, (24, [0]))), (24, (.iload_n 1, (25, [1]))), (25, (.iconst 1, (26, []))), (26, (.iadd, (27, []))), (27, (.putfield 123, (30, []))), (30, (.aload_n 0, (31, [0]))), (31, (.invokevirtual 102, (34, []))), (34, (.istore_n 2, (35, [2]))), (35, (.iload_n 2, (36, [2]))), (36, (.ifCond .ge 5, (39, [41]))), (39, (.iconst 1, (40, []))), (40, (.ireturn, (41, []))), (41, (.iload_n 2, (42, [2]))), (42, (.bipush 59, (44, []))), (44, (.if_icmp .ne 9, (47, [53]))), (47, (.iload_n 1, (48, [1]))), (48, (.bipush 8, (50, []))), (50, (.if_icmp .ne 5, (53, [55]))), (53, (.iconst 0, (54, []))), (54, (.ireturn, (55, []))), (55, (.aload_n 0, (56, [0]))), (56, (.dup, (57, []))), (57, (.getfield 99, (60, []))), (60, (.iconst 1, (61, []))), (61, (.iadd, (62, []))), (62, (.putfield 99, (65, []))), (65, (.iinc 1 1, (68, [1]))), (68, (.goto (-61), (71, [7]))), (71, (.iconst 0, (72, []))), (72, (.ireturn, (73, [])))]
abbrev m_Mo_readGuests : zM := (yX7_readGuests, (cX7_readGuests, (3, (some .boolean, (3, 73)))))
set_option maxRecDepth 20000 in
theorem tk_Mo_readGuests : tb_Mo_readGuests.all (z_ent m_Mo_readGuests.2.1 m_Mo_readGuests.2.2.1) = true := by decide +kernel
theorem yv_Mo_readGuests : z_yV m_Mo_readGuests 0 7 := ⟨⟨⟨by decide +kernel, by decide +kernel, by decide +kernel⟩, z_mem 56 (by decide +kernel) (by decide +kernel), z_mem 877 (by decide +kernel) (by decide +kernel)⟩, z_mem 876 (by decide +kernel) (by decide +kernel), z_mem 29 (by decide +kernel) (by decide +kernel), TX7, 23, rfl⟩
def tb_Mo_guests : List (Nat × zI) := [(0, (.aload_n 0, (1, [0]))), (1, (.invokevirtual 126, (4, []))), (4, (.istore_n 1, (5, [1]))), (5, (.iload_n 1, (6, [1]))), (6, (.ifCond .ne 8, (9, [14]))), (9, (.aload_n 0, (10, [0]))), (10, (.invokevirtual 102, (13, []))), (13, (.pop, (14, []))), (14, (.aload_n 0, (15, [0]))), (15, (.iconst 0, (16, []))), (16, (.putfield 96, (19, []))), (19, (.iload_n 1, (20, [1]))), (20, (.ifCond .ne 11, (23, [31]))), (23, (.bipush (-20), (25, []))), (25, (.aload_n 0, (26, [0]))), (26, (.getfield 99, (29, []))), (29, (.isub, (30, []))), (30, (.ireturn, (31, []))), (31, (.aload_n 0, (32, [0]))), (32, (.iconst 0, (33, []))), (33, (.putfield 59, (36, []))), (36, (.aload_n 0, (37, [0]))), (37, (.iconst 0, (38, []))), (38, (.putfield 85, (41, []))), (41, (.iconst 0, (42, []))), (42, (.istore_n 2, (43, [2]))), (43, (.iload_n 2, (44, [2]))), (44, (.aload_n 0, (45, [0]))), (45, (.getfield 123, (48, []))), (48, (.if_icmp .ge 29, (51, [77]))), (51, (.aload_n 0, (52, [0]))), (52, (.aload_n 0, (53, [0]))), (53, (.getfield 37, (56, []))), (56, (.iload_n 2, (57, [2]))), (57, (.iaload, (58, []))), (58, (.iconst 4, (59, []))), (59, (.irem, (60, []))), (60, (.aload_n 0, (61, [0]))), (61, (.getfield 37, (64, []))), (64, (.iload_n 2, (65, [2]))), (65, (.iaload, (66, []))), (66, (.iconst 4, (67, []))), (67, (.idiv, (68, []))), (68, (.invokevirtual 71, (71, []))), (71, (.iinc 2 1, (74, [2]))), (74, (.goto (-31), (77, [43]))), (77, (.aload_n 0, (78, [0]))), (78, (.getfield 59, (81, []))), (81, (.ireturn, (82, [])))]
abbrev m_Mo_guests : zM := (yX7_guests, (cX7_guests, (3, (some .int, (4, 95)))))
set_option maxRecDepth 20000 in
theorem tk_Mo_guests : tb_Mo_guests.all (z_ent m_Mo_guests.2.1 m_Mo_guests.2.2.1) = true := by decide +kernel
theorem yv_Mo_guests : z_yV m_Mo_guests 0 7 := ⟨⟨⟨by decide +kernel, by decide +kernel, by decide +kernel⟩, z_mem 56 (by decide +kernel) (by decide +kernel), z_mem 873 (by decide +kernel) (by decide +kernel)⟩, z_mem 871 (by decide +kernel) (by decide +kernel), z_mem 872 (by decide +kernel) (by decide +kernel), TX7, 23, rfl⟩
def tb_Mo_off : List (Nat × zI) := [(0, (.aload_n 0, (1, [0]))), (1, (.getfield 16, (4, []))), (4, (.iload_n 1, (5, [1]))), (5, (.iaload, (6, []))), (6, (.iload_n 2, (7, [2]))), (7, (.isub, (8, []))), (8, (.istore_n 3, (9, [3]))), (9, (.iload_n 3, (10, [3]))), (10, (.ifCond .ge 8, (13, [18]))), (13, (.iload_n 3, (14, [3]))), (14, (.ineg, (15, []))), (15, (.goto 4, (18, [19]))), (18, (.iload_n 3, (19, [3]))), (19, (.ireturn, (20, [])))]
abbrev m_Mo_off : zM := (yX7_off, (cX7_off, (4, (some .int, (0, 0)))))
set_option maxRecDepth 20000 in
theorem tk_Mo_off : tb_Mo_off.all (z_ent m_Mo_off.2.1 m_Mo_off.2.2.1) = true := by decide +kernel
theorem yv_Mo_off : z_yV m_Mo_off 2 7 := ⟨⟨⟨by decide +kernel, by decide +kernel, by decide +kernel⟩, z_mem 56 (by decide +kernel) (by decide +kernel), z_mem 897 (by decide +kernel) (by decide +kernel)⟩, z_mem 896 (by decide +kernel) (by decide +kernel), z_mem 33 (by decide +kernel) (by decide +kernel), TX7, 23, rfl⟩
def tb_Mo_middle : List (Nat × zI) := [(0, (.iconst 0, (1, []))), (1, (.istore_n 1, (2, [1]))), (2, (.iconst 0, (3, []))), (3, (.istore_n 2, (4, [2]))), (4, (.iload_n 2, (5, [2]))), (5, (.aload_n 0, (6, [0]))), (6, (.getfield 59, (9, []))), (9, (.if_icmp .ge 93, (12, [102]))), (12, (.iconst 0, (13, []))), (13, (.istore_n 3, (14, [3]))), (14, (.iconst 0, (15, []))), (15, (.istore 4, (17, [4]))), (17, (.iload 4, (19, [4]))), (19, (.aload_n 0, (20, [0]))), (20, (.getfield 59, (23, []))), (23, (.if_icmp .ge 55, (26, [78]))), (26, (.iload_n 3, (27, [3]))), (27, (.aload_n 0, (28, [0]))), (28, (.getfield 16, (31, []))), (31, (.iload 4, (33, [4]))), (33, (.iaload, (34, []))), (34, (.aload_n 0, (35, [0]))), (35, (.getfield 16, (38, []))), (38, (.iload_n 2, (39, [2]))), (39, (.iaload, (40, []))), (40, (.if_icmp .lt 25, (43, [65]))), (43, (.aload_n 0, (44, [0]))), (44, (.getfield 16, (47, []))), (47, (.iload 4, (49, [4]))), (49, (.iaload, (50, []))), (50, (.aload_n 0, (51, [0]))), (51, (.getfield 16, (54, []))), (54, (.iload_n 2, (55, [2]))), (55, (.iaload, (56, []))), (56, (.if_icmp .ne 13, (59, [69]))), (59, (.iload 4, (61, [4]))), (61, (.iload_n 2, (62, [2]))), (62, (.if_icmp .ge 7, (65, [69]))), (65, (.iconst 1, (66, []))), (66, (.goto 4, (69, [70]))), (69, (.iconst 0, (70, []))), (70, (.iadd, (71, []))), (71, (.istore_n 3, (72, [3]))), (72, (.iinc 4 1, (75, [4]))), (75, (.goto (-58), (78, [17]))), (78, (.iload_n 3, (79, [3]))), (79, (.aload_n 0, (80, [0]))), (80, (.getfield 59, (83, []))), (83, (.iconst 1, (84, []))), (84, (.isub, (85, []))), (85, (.iconst 2, (86, []))), (86, (.idiv, (87, []))), (87, (.if_icmp .ne 7, (90, [94]))), (90, (.iload_n 2, (91, [2]))), (91, (.goto 4, (94, [95]))), (94, (.iload_n 1, (95, [1]))), (95, (.istore_n 1, (96, [1]))), (96, (.iinc 2 1, (99, [2]))), (99, (.goto (-95), (102, [4]))), (102, (.iload_n 1, (103, [1]))), (103, (.ireturn, (104, [])))]
abbrev m_Mo_middle : zM := (yX7_middle, (cX7_middle, (5, (some .int, (0, 0)))))
set_option maxRecDepth 20000 in
theorem tk_Mo_middle : tb_Mo_middle.all (z_ent m_Mo_middle.2.1 m_Mo_middle.2.2.1) = true := by decide +kernel
theorem yv_Mo_middle : z_yV m_Mo_middle 0 7 := ⟨⟨⟨by decide +kernel, by decide +kernel, by decide +kernel⟩, z_mem 56 (by decide +kernel) (by decide +kernel), z_mem 904 (by decide +kernel) (by decide +kernel)⟩, z_mem 903 (by decide +kernel) (by decide +kernel), z_mem 34 (by decide +kernel) (by decide +kernel), TX7, 23, rfl⟩
def tb_Mo_farthest : List (Nat × zI) := [(0, (.iconst (-1), (1, []))), (1, (.istore 4, (3, [4]))), (3, (.iconst 0, (4, []))), (4, (.istore 5, (6, [5]))), (6, (.iconst 0, (7, []))), (7, (.istore 6, (9, [6]))), (9, (.iload 6, (11, [6]))), (11, (.aload_n 0, (12, [0]))), (12, (.getfield 59, (15, []))), (15, (.if_icmp .ge 95, (18, [110]))), (18, (.iload_n 1, (19, [1]))), (19, (.iload 6, (21, [6]))), (21, (.invokestatic 129, (24, []))), (24, (.ifCond .eq 80, (27, [104]))), (27, (.iload_n 3, (28, [3]))), (28, (.ifCond .eq 16, (31, [44]))), (31, (.bipush 99, (33, []))), (33, (.aload_n 0, (34, [0]))), (34, (.iload 6, (36, [6]))), (36, (.iload_n 2, (37, [2]))), (37, (.invokevirtual 133, (40, []))), (40, (.isub, (41, []))), (41, (.goto 10, (44, [51]))), (44, (.aload_n 0, (45, [0]))), (45, (.iload 6, (47, [6]))), (47, (.iload_n 2, (48, [2]))), (48, (.invokevirtual 133, (51, []))), (51, (.istore 7, (53, [7]))), (53, (.iload 7, (55, [7]))), (55, (.iload 4, (57, [4]))), (57, (.if_icmp .le 10, (60, [67]))), (60, (.iconst 1, (61, []))), (61, (.iload 6, (63, [6]))), (63, (.ishl, (64, []))), (64, (.goto 22, (67, [86]))), (67, (.iload 7, (69, [7]))), (69, (.iload 4, (71, [4]))), (71, (.if_icmp .ne 13, (74, [84]))), (74, (.iload 5, (76, [5]))), (76, (.iconst 1, (77, []))), (77, (.iload 6, (79, [6]))), (79, (.ishl, (80, []))), (80, (.ior, (81, []))), (81, (.goto 5, (84, [86]))), (84, (.iload 5, (86, [5]))), (86, (.istore 5, (88, [5]))), (88, (.iload 7, (90, [7]))), (90, (.iload 4, (92, [4]))), (92, (.if_icmp .le 8, (95, [100]))), (95, (.iload 7, (97, [7]))), (97, (.goto 5, (100, [102]))), (100, (.iload 4, (102, [4]))), (102, (.istore 4, (104, [4]))), (104, (.iinc 6 1, (107, [6]))), (107, (.goto (-98), (110, [9]))), (110, (.aload_n 0, (111, [0]))), (111, (.getfield 19, (114, []))), (114, (.iconst 1, (115, []))), (115, (.iaload, (116, []))), (116, (.iconst 1, (117, []))), (117, (.if_icmp .ne 8, (120, [125]))), (120, (.iload 5, (122, [5]))), (122, (.goto 9, (125, [131]))), (125, (.aload_n 0, (126, [0]))), (126, (.iload 5, (128, [5]))), (128, (.invokevirtual 136, (131, []))), (131, (.ireturn, (132, [])))]
abbrev m_Mo_farthest : zM := (yX7_farthest, (cX7_farthest, (8, (some .int, (2, 45)))))
set_option maxRecDepth 20000 in
theorem tk_Mo_farthest : tb_Mo_farthest.all (z_ent m_Mo_farthest.2.1 m_Mo_farthest.2.2.1) = true := by decide +kernel
theorem yv_Mo_farthest : z_yV m_Mo_farthest 3 7 := ⟨⟨⟨by decide +kernel, by decide +kernel, by decide +kernel⟩, z_mem 56 (by decide +kernel) (by decide +kernel), z_mem 908 (by decide +kernel) (by decide +kernel)⟩, z_mem 907 (by decide +kernel) (by decide +kernel), z_mem 35 (by decide +kernel) (by decide +kernel), TX7, 23, rfl⟩
def tb_Mo_oneOf : List (Nat × zI) := [(0, (.iload_n 1, (1, [1]))), (1, (.iload_n 1, (2, [1]))), (2, (.ineg, (3, []))), (3, (.iand, (4, []))), (4, (.istore_n 2, (5, [2]))), (5, (.iload_n 2, (6, [2]))), (6, (.istore_n 3, (7, [3]))), (7, (.iconst 0, (8, []))), (8, (.istore 4, (10, [4]))), (10, (.iload 4, (12, [4]))), (12, (.bipush 9, (14, []))), (14, (.if_icmp .ge 27, (17, [41]))), (17, (.iload_n 1, (18, [1]))), (18, (.iload 4, (20, [4]))), (20, (.invokestatic 129, (23, []))), (23, (.ifCond .eq 10, (26, [33]))), (26, (.iconst 1, (27, []))), (27, (.iload 4, (29, [4]))), (29, (.ishl, (30, []))), (30, (.goto 4, (33, [34]))), (33, (.iload_n 3, (34, [3]))), (34, (.istore_n 3, (35, [3]))), (35, (.iinc 4 1, (38, [4]))), (38, (.goto (-28), (41, [10]))), (41, (.aload_n 0, (42, [0]))), (42, (.getfield 19, (45, []))), (45, (.iconst 1, (46, []))), (46, (.iaload, (47, []))), (47, (.iconst 2, (48, []))), (48, (.if_icmp .ne 7, (51, [55]))), (51, (.iload_n 3, (52, [3]))), (52, (.goto 4, (55, [56]))), (55, (.iload_n 2, (56, [2]))), (56, (.ireturn, (57, [])))]
abbrev m_Mo_oneOf : zM := (yX7_oneOf, (cX7_oneOf, (5, (some .int, (1, 21)))))
set_option maxRecDepth 20000 in
theorem tk_Mo_oneOf : tb_Mo_oneOf.all (z_ent m_Mo_oneOf.2.1 m_Mo_oneOf.2.2.1) = true := by decide +kernel
theorem yv_Mo_oneOf : z_yV m_Mo_oneOf 1 7 := ⟨⟨⟨by decide +kernel, by decide +kernel, by decide +kernel⟩, z_mem 56 (by decide +kernel) (by decide +kernel), z_mem 912 (by decide +kernel) (by decide +kernel)⟩, z_mem 911 (by decide +kernel) (by decide +kernel), z_mem 36 (by decide +kernel) (by decide +kernel), TX7, 23, rfl⟩
def tb_Mo_firstOff : List (Nat × zI) := [(0, (.iconst (-1), (1, []))), (1, (.istore_n 3, (2, [3]))), (2, (.iconst 0, (3, []))), (3, (.istore 4, (5, [4]))), (5, (.iload 4, (7, [4]))), (7, (.aload_n 0, (8, [0]))), (8, (.getfield 59, (11, []))), (11, (.if_icmp .ge 83, (14, [94]))), (14, (.iload_n 3, (15, [3]))), (15, (.ifCond .lt 45, (18, [60]))), (18, (.aload_n 0, (19, [0]))), (19, (.iload 4, (21, [4]))), (21, (.iload_n 2, (22, [2]))), (22, (.invokevirtual 133, (25, []))), (25, (.aload_n 0, (26, [0]))), (26, (.iload_n 3, (27, [3]))), (27, (.iload_n 2, (28, [2]))), (28, (.invokevirtual 133, (31, []))), (31, (.if_icmp .gt 29, (34, [60]))), (34, (.aload_n 0, (35, [0]))), (35, (.getfield 19, (38, []))), (38, (.iconst 1, (39, []))), (39, (.iaload, (40, []))), (40, (.iconst 2, (41, []))), (41, (.if_icmp .ne 23, (44, [64]))), (44, (.aload_n 0, (45, [0]))), (45, (.iload 4, (47, [4]))), (47, (.iload_n 2, (48, [2]))), (48, (.invokevirtual 133, (51, []))), (51, (.aload_n 0, (52, [0]))), (52, (.iload_n 3, (53, [3]))), (53, (.iload_n 2, (54, [2]))), (54, (.invokevirtual 133, (57, []))), (57, (.if_icmp .ne 7, (60, [64]))), (60, (.iconst 1, (61, []))), (61, (.goto 4, (64, [65]))), (64, (.iconst 0, (65, []))), (65, (.istore 5, (67, [5]))), (67, (.iload_n 1, (68, [1]))), (68, (.iload 4, (70, [4]))), (70, (.invokestatic 129, (73, []))), (73, (.ifCond .eq 13, (76, [86]))), (76, (.iload 5, (78, [5]))), (78, (.ifCond .eq 8, (81, [86]))), (81, (.iload 4, (83, [4]))), (83, (.goto 4, (86, [87]))), (86, (.iload_n 3, (87, [3]))), (87, (.istore_n 3, (88, [3]))), (88, (.iinc 4 1, (91, [4]))), (91, (.goto (-86), (94, [5]))), (94, (.iload_n 3, (95, [3]))), (95, (.ireturn, (96, [])))]
abbrev m_Mo_firstOff : zM := (yX7_firstOff, (cX7_firstOff, (6, (some .int, (1, 23)))))
set_option maxRecDepth 20000 in
theorem tk_Mo_firstOff : tb_Mo_firstOff.all (z_ent m_Mo_firstOff.2.1 m_Mo_firstOff.2.2.1) = true := by decide +kernel
theorem yv_Mo_firstOff : z_yV m_Mo_firstOff 2 7 := ⟨⟨⟨by decide +kernel, by decide +kernel, by decide +kernel⟩, z_mem 56 (by decide +kernel) (by decide +kernel), z_mem 893 (by decide +kernel) (by decide +kernel)⟩, z_mem 892 (by decide +kernel) (by decide +kernel), z_mem 32 (by decide +kernel) (by decide +kernel), TX7, 23, rfl⟩
def tb_Mo_payers : List (Nat × zI) := [(0, (.iconst 1, (1, []))), (1, (.aload_n 0, (2, [0]))), (2, (.getfield 59, (5, []))), (5, (.ishl, (6, []))), (6, (.iconst 1, (7, []))), (7, (.isub, (8, []))), (8, (.istore_n 2, (9, [2]))), (9, (.aload_n 0, (10, [0]))), (10, (.getfield 19, (13, []))), (13, (.iconst 0, (14, []))), (14, (.iaload, (15, []))), (15, (.iconst 2, (16, []))), (16, (.if_icmp .ne 39, (19, [55]))), (19, (.iconst 1, (20, []))), (20, (.aload_n 0, (21, [0]))), (21, (.iload_n 2, (22, [2]))), (22, (.iload_n 1, (23, [1]))), (23, (.invokevirtual 140, (26, []))), (26, (.ishl, (27, []))), (27, (.istore_n 3, (28, [3]))), (28, (.aload_n 0, (29, [0]))), (29, (.getfield 59, (32, []))), (32, (.iconst 1, (33, []))), (33, (.if_icmp .ne 7, (36, [40]))), (36, (.iload_n 3, (37, [3]))), (37, (.goto 17, (40, [54]))), (40, (.iload_n 3, (41, [3]))), (41, (.iconst 1, (42, []))), (42, (.aload_n 0, (43, [0]))), (43, (.iload_n 2, (44, [2]))), (44, (.iload_n 3, (45, [3]))), (45, (.iconst (-1), (46, []))), (46, (.ixor, (47, []))), (47, (.iand, (48, []))), (48, (.iload_n 1, (49, [1]))), (49, (.invokevirtual 140, (52, []))), (52, (.ishl, (53, []))), (53, (.ior, (54, []))), (54, (.ireturn, (55, []))), (55, (.aload_n 0, (56, [0]))), (56, (.getfield 19, (59, []))), (59, (.iconst 0, (60, []))), (60, (.iaload, (61, []))), (61, (.iconst 3, (62, []))), (62, (.if_icmp .ne 22, (65, [84]))), (65, (.aload_n 0, (66, [0]))), (66, (.getfield 59, (69, []))), (69, (.iconst 1, (70, []))), (70, (.if_icmp .le 14, (73, [84]))), (73, (.iload_n 2, (74, [2]))), (74, (.iconst 1, (75, []))), (75, (.aload_n 0, (76, [0]))), (76, (.invokevirtual 143, (79, []))), (79, (.ishl, (80, []))), (80, (.iconst (-1), (81, []))), (81, (.ixor, (82, []))), (82, (.iand, (83, []))), (83, (.istore_n 2, (84, [2]))), (84, (.aload_n 0, (85, [0]))), (85, (.iload_n 2, (86, [2]))), (86, (.iload_n 1, (87, [1]))), (87, (.aload_n 0, (88, [0]))), (88, (.getfield 19, (91, []))), (91, (.iconst 0, (92, []))), (92, (.iaload, (93, []))), (93, (.iconst 1, (94, []))), (94, (.if_icmp .ne 7, (97, [101]))), (97, (.iconst 1, (98, []))), (98, (.goto 4, (101, [102]))), (101, (.iconst 0, (102, []))), (102, (.invokevirtual 146, (105, []))), (105, (.ireturn, (106, [])))]
abbrev m_Mo_payers : zM := (yX7_payers, (cX7_payers, (4, (some .int, (3, 72)))))
set_option maxRecDepth 20000 in
theorem tk_Mo_payers : tb_Mo_payers.all (z_ent m_Mo_payers.2.1 m_Mo_payers.2.2.1) = true := by decide +kernel
theorem yv_Mo_payers : z_yV m_Mo_payers 1 7 := ⟨⟨⟨by decide +kernel, by decide +kernel, by decide +kernel⟩, z_mem 56 (by decide +kernel) (by decide +kernel), z_mem 889 (by decide +kernel) (by decide +kernel)⟩, z_mem 888 (by decide +kernel) (by decide +kernel), z_mem 31 (by decide +kernel) (by decide +kernel), TX7, 23, rfl⟩
def tb_Mo_pay : List (Nat × zI) := [(0, (.iload_n 1, (1, [1]))), (1, (.i2l, (2, []))), (2, (.invokestatic 63, (5, []))), (5, (.ifCond .ne 7, (8, [12]))), (8, (.iconst (-1), (9, []))), (9, (.goto 20, (12, [29]))), (12, (.aload_n 0, (13, [0]))), (13, (.getfield 59, (16, []))), (16, (.ifCond .ne 8, (19, [24]))), (19, (.bipush (-4), (21, []))), (21, (.goto 8, (24, [29]))), (24, (.aload_n 0, (25, [0]))), (25, (.iload_n 1, (26, [1]))), (26, (.invokevirtual 150, (29, []))), (29, (.ireturn, (30, [])))]
abbrev m_Mo_pay : zM := (yX7_pay, (cX7_pay, (2, (some .int, (4, 95)))))
set_option maxRecDepth 20000 in
theorem tk_Mo_pay : tb_Mo_pay.all (z_ent m_Mo_pay.2.1 m_Mo_pay.2.2.1) = true := by decide +kernel
theorem yv_Mo_pay : z_yV m_Mo_pay 1 7 := ⟨⟨⟨by decide +kernel, by decide +kernel, by decide +kernel⟩, z_mem 56 (by decide +kernel) (by decide +kernel), z_mem 885 (by decide +kernel) (by decide +kernel)⟩, z_mem 883 (by decide +kernel) (by decide +kernel), z_mem 884 (by decide +kernel) (by decide +kernel), TX7, 23, rfl⟩
def tb_Mo_partsFor : List (Nat × zI) := [(0, (.aload_n 0, (1, [0]))), (1, (.iload_n 2, (2, [2]))), (2, (.invokevirtual 150, (5, []))), (5, (.istore_n 3, (6, [3]))), (6, (.iload_n 3, (7, [3]))), (7, (.iload_n 1, (8, [1]))), (8, (.invokestatic 129, (11, []))), (11, (.ifCond .eq 16, (14, [27]))), (14, (.iload_n 2, (15, [2]))), (15, (.sipush 2520, (18, []))), (18, (.iload_n 3, (19, [3]))), (19, (.invokestatic 153, (22, []))), (22, (.idiv, (23, []))), (23, (.imul, (24, []))), (24, (.goto 4, (27, [28]))), (27, (.iconst 0, (28, []))), (28, (.ireturn, (29, [])))]
abbrev m_Mo_partsFor : zM := (yX7_partsFor, (cX7_partsFor, (4, (some .int, (4, 95)))))
set_option maxRecDepth 20000 in
theorem tk_Mo_partsFor : tb_Mo_partsFor.all (z_ent m_Mo_partsFor.2.1 m_Mo_partsFor.2.2.1) = true := by decide +kernel
theorem yv_Mo_partsFor : z_yV m_Mo_partsFor 2 7 := ⟨⟨⟨by decide +kernel, by decide +kernel, by decide +kernel⟩, z_mem 56 (by decide +kernel) (by decide +kernel), z_mem 920 (by decide +kernel) (by decide +kernel)⟩, z_mem 919 (by decide +kernel) (by decide +kernel), z_mem 37 (by decide +kernel) (by decide +kernel), TX7, 23, rfl⟩
def tb_Mo_common : List (Nat × zI) := [(0, (.lload_n 0, (1, [0]))), (1, (.lstore 4, (3, [4]))), (3, (.lload_n 2, (4, [2]))), (4, (.lstore 6, (6, [6]))), (6, (.lload 6, (8, [6]))), (8, (.lconst 0, (9, [0]))), (9, (.lcmp, (10, []))), (10, (.ifCond .eq 21, (13, [31]))), (13, (.lload 4, (15, [4]))), (15, (.lload 6, (17, [6]))), (17, (.lrem, (18, []))), (18, (.lstore 8, (20, [8]))), (20, (.lload 6, (22, [6]))), (22, (.lstore 4, (24, [4]))), (24, (.lload 8, (26, [8]))), (26, (.lstore 6, (28, [6]))), (28, (.goto (-22), (31, [6]))), (31, (.lload 4, (33, [4]))), (33, (.lreturn, (34, [])))]
abbrev m_Mo_common : zM := (yX7_common, (cX7_common, (10, (some .long, (0, 0)))))
set_option maxRecDepth 20000 in
theorem tk_Mo_common : tb_Mo_common.all (z_ent m_Mo_common.2.1 m_Mo_common.2.2.1) = true := by decide +kernel
theorem ys_Mo_common : z_yS m_Mo_common 2 := ⟨⟨⟨by decide +kernel, by decide +kernel, by decide +kernel⟩, z_mem 56 (by decide +kernel) (by decide +kernel), z_mem 930 (by decide +kernel) (by decide +kernel)⟩, z_mem 929 (by decide +kernel) (by decide +kernel)⟩
def tb_Mo_part : List (Nat × zI) := [(0, (.iload 4, (2, [4]))), (2, (.ifCond .ne 7, (5, [9]))), (5, (.lload_n 0, (6, [0]))), (6, (.goto 4, (9, [10]))), (9, (.lload_n 2, (10, [2]))), (10, (.lload_n 0, (11, [0]))), (11, (.lload_n 2, (12, [2]))), (12, (.invokestatic 156, (15, []))), (15, (.ldiv, (16, []))), (16, (.lreturn, (17, [])))]
abbrev m_Mo_part : zM := (yX7_part, (cX7_part, (5, (some .long, (1, 29)))))
set_option maxRecDepth 20000 in
theorem tk_Mo_part : tb_Mo_part.all (z_ent m_Mo_part.2.1 m_Mo_part.2.2.1) = true := by decide +kernel
theorem ys_Mo_part : z_yS m_Mo_part 3 := ⟨⟨⟨by decide +kernel, by decide +kernel, by decide +kernel⟩, z_mem 56 (by decide +kernel) (by decide +kernel), z_mem 927 (by decide +kernel) (by decide +kernel)⟩, z_mem 926 (by decide +kernel) (by decide +kernel)⟩
def tb_Mo_pays : List (Nat × zI) := [(0, (.aload_n 0, (1, [0]))), (1, (.iload_n 1, (2, [1]))), (2, (.invokevirtual 75, (5, []))), (5, (.ifCond .eq 21, (8, [26]))), (8, (.iload_n 2, (9, [2]))), (9, (.i2l, (10, []))), (10, (.invokestatic 63, (13, []))), (13, (.ifCond .eq 13, (16, [26]))), (16, (.iload_n 3, (17, [3]))), (17, (.i2l, (18, []))), (18, (.lconst 0, (19, [0]))), (19, (.lconst 1, (20, [1]))), (20, (.invokestatic 55, (23, []))), (23, (.ifCond .ne 5, (26, [28]))), (26, (.iconst (-1), (27, []))), (27, (.ireturn, (28, []))), (28, (.aload_n 0, (29, [0]))), (29, (.iload_n 1, (30, [1]))), (30, (.iload_n 2, (31, [2]))), (31, (.invokevirtual 160, (34, []))), (34, (.i2l, (35, []))), (35, (.ldc2_w 163, (38, []))), (38, (.iload_n 3, (39, [3]))), (39, (.invokestatic 165, (42, []))), (42, (.l2i, (43, []))), (43, (.ireturn, (44, [])))]
abbrev m_Mo_pays : zM := (yX7_pays, (cX7_pays, (4, (some .int, (5, 118)))))
set_option maxRecDepth 20000 in
theorem tk_Mo_pays : tb_Mo_pays.all (z_ent m_Mo_pays.2.1 m_Mo_pays.2.2.1) = true := by decide +kernel
theorem yv_Mo_pays : z_yV m_Mo_pays 3 7 := ⟨⟨⟨by decide +kernel, by decide +kernel, by decide +kernel⟩, z_mem 56 (by decide +kernel) (by decide +kernel), z_mem 916 (by decide +kernel) (by decide +kernel)⟩, z_mem 914 (by decide +kernel) (by decide +kernel), z_mem 915 (by decide +kernel) (by decide +kernel), TX7, 23, rfl⟩
def tb_Mo_meanParts : List (Nat × zI) := [(0, (.iconst 0, (1, []))), (1, (.istore_n 2, (2, [2]))), (2, (.iconst 1, (3, []))), (3, (.istore_n 3, (4, [3]))), (4, (.iload_n 3, (5, [3]))), (5, (.bipush 21, (7, []))), (7, (.if_icmp .ge 38, (10, [45]))), (10, (.iload_n 2, (11, [2]))), (11, (.aload_n 0, (12, [0]))), (12, (.getfield 7, (15, []))), (15, (.iload_n 3, (16, [3]))), (16, (.iaload, (17, []))), (17, (.ifCond .ne 7, (20, [24]))), (20, (.iconst 0, (21, []))), (21, (.goto 16, (24, [37]))), (24, (.aload_n 0, (25, [0]))), (25, (.getfield 7, (28, []))), (28, (.iload_n 3, (29, [3]))), (29, (.iaload, (30, []))), (30, (.aload_n 0, (31, [0]))), (31, (.iload_n 1, (32, [1]))), (32, (.iload_n 3, (33, [3]))), (33, (.invokevirtual 160, (36, []))), (36, (.imul, (37, []))), (37, (.iadd, (38, []))), (38, (.istore_n 2, (39, [2]))), (39, (.iinc 3 1, (42, [3]))), (42, (.goto (-38), (45, [4]))), (45, (.iload_n 2, (46, [2]))), (46, (.ireturn, (47, [])))]
abbrev m_Mo_meanParts : zM := (yX7_meanParts, (cX7_meanParts, (4, (some .int, (5, 118)))))
set_option maxRecDepth 20000 in
theorem tk_Mo_meanParts : tb_Mo_meanParts.all (z_ent m_Mo_meanParts.2.1 m_Mo_meanParts.2.2.1) = true := by decide +kernel
theorem yv_Mo_meanParts : z_yV m_Mo_meanParts 1 7 := ⟨⟨⟨by decide +kernel, by decide +kernel, by decide +kernel⟩, z_mem 56 (by decide +kernel) (by decide +kernel), z_mem 940 (by decide +kernel) (by decide +kernel)⟩, z_mem 939 (by decide +kernel) (by decide +kernel), z_mem 38 (by decide +kernel) (by decide +kernel), TX7, 23, rfl⟩
def tb_Mo_mean : List (Nat × zI) := [(0, (.aload_n 0, (1, [0]))), (1, (.iload_n 1, (2, [1]))), (2, (.invokevirtual 75, (5, []))), (5, (.ifCond .eq 13, (8, [18]))), (8, (.iload_n 2, (9, [2]))), (9, (.i2l, (10, []))), (10, (.lconst 0, (11, [0]))), (11, (.lconst 1, (12, [1]))), (12, (.invokestatic 55, (15, []))), (15, (.ifCond .ne 7, (18, [22]))), (18, (.ldc2_w 169, (21, []))), (21, (.lreturn, (22, []))), (22, (.aload_n 0, (23, [0]))), (23, (.invokevirtual 79, (26, []))), (26, (.ifCond .ne 9, (29, [35]))), (29, (.ldc2_w 171, (32, []))), (32, (.goto 22, (35, [54]))), (35, (.aload_n 0, (36, [0]))), (36, (.iload_n 1, (37, [1]))), (37, (.invokevirtual 173, (40, []))), (40, (.i2l, (41, []))), (41, (.ldc2_w 163, (44, []))), (44, (.aload_n 0, (45, [0]))), (45, (.invokevirtual 79, (48, []))), (48, (.i2l, (49, []))), (49, (.lmul, (50, []))), (50, (.iload_n 2, (51, [2]))), (51, (.invokestatic 165, (54, []))), (54, (.lreturn, (55, [])))]
abbrev m_Mo_mean : zM := (yX7_mean, (cX7_mean, (3, (some .long, (6, 141)))))
set_option maxRecDepth 20000 in
theorem tk_Mo_mean : tb_Mo_mean.all (z_ent m_Mo_mean.2.1 m_Mo_mean.2.2.1) = true := by decide +kernel
theorem yv_Mo_mean : z_yV m_Mo_mean 2 7 := ⟨⟨⟨by decide +kernel, by decide +kernel, by decide +kernel⟩, z_mem 56 (by decide +kernel) (by decide +kernel), z_mem 934 (by decide +kernel) (by decide +kernel)⟩, z_mem 932 (by decide +kernel) (by decide +kernel), z_mem 933 (by decide +kernel) (by decide +kernel), TX7, 23, rfl⟩
def tb_Mo_meanBy : List (Nat × zI) := [(0, (.aload_n 0, (1, [0]))), (1, (.getfield 16, (4, []))), (4, (.iload_n 1, (5, [1]))), (5, (.iaload, (6, []))), (6, (.istore_n 3, (7, [3]))), (7, (.aload_n 0, (8, [0]))), (8, (.getfield 16, (11, []))), (11, (.iload_n 1, (12, [1]))), (12, (.iload_n 2, (13, [2]))), (13, (.iastore, (14, []))), (14, (.aload_n 0, (15, [0]))), (15, (.iload_n 1, (16, [1]))), (16, (.invokevirtual 173, (19, []))), (19, (.istore 4, (21, [4]))), (21, (.aload_n 0, (22, [0]))), (22, (.getfield 16, (25, []))), (25, (.iload_n 1, (26, [1]))), (26, (.iload_n 3, (27, [3]))), (27, (.iastore, (28, []))), (28, (.iload 4, (30, [4]))), (30, (.ireturn, (31, [])))]
abbrev m_Mo_meanBy : zM := (yX7_meanBy, (cX7_meanBy, (5, (some .int, (6, 141)))))
set_option maxRecDepth 20000 in
theorem tk_Mo_meanBy : tb_Mo_meanBy.all (z_ent m_Mo_meanBy.2.1 m_Mo_meanBy.2.2.1) = true := by decide +kernel
theorem yv_Mo_meanBy : z_yV m_Mo_meanBy 2 7 := ⟨⟨⟨by decide +kernel, by decide +kernel, by decide +kernel⟩, z_mem 56 (by decide +kernel) (by decide +kernel), z_mem 952 (by decide +kernel) (by decide +kernel)⟩, z_mem 951 (by decide +kernel) (by decide +kernel), z_mem 40 (by decide +kernel) (by decide +kernel), TX7, 23, rfl⟩
def tb_Mo_bestOf : List (Nat × zI) := [(0, (.iconst 0, (1, []))), (1, (.istore_n 2, (2, [2]))), (2, (.aload_n 0, (3, [0]))), (3, (.iload_n 1, (4, [1]))), (4, (.iconst 0, (5, []))), (5, (.invokevirtual 176, (8, []))), (8, (.istore_n 3, (9, [3]))), (9, (.iconst 1, (10, []))), (10, (.istore 4, (12, [4]))), (12, (.iload 4, (14, [4]))), (14, (.bipush 21, (16, []))), (16, (.if_icmp .ge 44, (19, [60]))), (19, (.aload_n 0, (20, [0]))), (20, (.iload_n 1, (21, [1]))), (21, (.iload 4, (23, [4]))), (23, (.invokevirtual 176, (26, []))), (26, (.istore 5, (28, [5]))), (28, (.iload 5, (30, [5]))), (30, (.iload_n 3, (31, [3]))), (31, (.if_icmp .ge 8, (34, [39]))), (34, (.iload 4, (36, [4]))), (36, (.goto 4, (39, [40]))), (39, (.iload_n 2, (40, [2]))), (40, (.istore_n 2, (41, [2]))), (41, (.iload 5, (43, [5]))), (43, (.iload_n 3, (44, [3]))), (44, (.if_icmp .ge 8, (47, [52]))), (47, (.iload 5, (49, [5]))), (49, (.goto 4, (52, [53]))), (52, (.iload_n 3, (53, [3]))), (53, (.istore_n 3, (54, [3]))), (54, (.iinc 4 1, (57, [4]))), (57, (.goto (-45), (60, [12]))), (60, (.iload_n 2, (61, [2]))), (61, (.ireturn, (62, [])))]
abbrev m_Mo_bestOf : zM := (yX7_bestOf, (cX7_bestOf, (6, (some .int, (7, 165)))))
set_option maxRecDepth 20000 in
theorem tk_Mo_bestOf : tb_Mo_bestOf.all (z_ent m_Mo_bestOf.2.1 m_Mo_bestOf.2.2.1) = true := by decide +kernel
theorem yv_Mo_bestOf : z_yV m_Mo_bestOf 1 7 := ⟨⟨⟨by decide +kernel, by decide +kernel, by decide +kernel⟩, z_mem 56 (by decide +kernel) (by decide +kernel), z_mem 948 (by decide +kernel) (by decide +kernel)⟩, z_mem 947 (by decide +kernel) (by decide +kernel), z_mem 39 (by decide +kernel) (by decide +kernel), TX7, 23, rfl⟩
def tb_Mo_best : List (Nat × zI) := [(0, (.aload_n 0, (1, [0]))), (1, (.iload_n 1, (2, [1]))), (2, (.invokevirtual 75, (5, []))), (5, (.ifCond .ne 7, (8, [12]))), (8, (.iconst (-1), (9, []))), (9, (.goto 20, (12, [29]))), (12, (.aload_n 0, (13, [0]))), (13, (.invokevirtual 79, (16, []))), (16, (.ifCond .ne 8, (19, [24]))), (19, (.bipush (-2), (21, []))), (21, (.goto 8, (24, [29]))), (24, (.aload_n 0, (25, [0]))), (25, (.iload_n 1, (26, [1]))), (26, (.invokevirtual 179, (29, []))), (29, (.ireturn, (30, [])))]
abbrev m_Mo_best : zM := (yX7_best, (cX7_best, (2, (some .int, (8, 190)))))
set_option maxRecDepth 20000 in
theorem tk_Mo_best : tb_Mo_best.all (z_ent m_Mo_best.2.1 m_Mo_best.2.2.1) = true := by decide +kernel
theorem yv_Mo_best : z_yV m_Mo_best 1 7 := ⟨⟨⟨by decide +kernel, by decide +kernel, by decide +kernel⟩, z_mem 56 (by decide +kernel) (by decide +kernel), z_mem 944 (by decide +kernel) (by decide +kernel)⟩, z_mem 942 (by decide +kernel) (by decide +kernel), z_mem 943 (by decide +kernel) (by decide +kernel), TX7, 23, rfl⟩
def tb_Mo_isStill : List (Nat × zI) := [(0, (.aload_n 0, (1, [0]))), (1, (.getfield 13, (4, []))), (4, (.iload_n 1, (5, [1]))), (5, (.iaload, (6, []))), (6, (.iconst 2, (7, []))), (7, (.if_icmp .eq 21, (10, [28]))), (10, (.aload_n 0, (11, [0]))), (11, (.iload_n 1, (12, [1]))), (12, (.aload_n 0, (13, [0]))), (13, (.iload_n 1, (14, [1]))), (14, (.invokevirtual 179, (17, []))), (17, (.invokevirtual 176, (20, []))), (20, (.aload_n 0, (21, [0]))), (21, (.iload_n 1, (22, [1]))), (22, (.invokevirtual 173, (25, []))), (25, (.if_icmp .lt 7, (28, [32]))), (28, (.iconst 1, (29, []))), (29, (.goto 4, (32, [33]))), (32, (.iconst 0, (33, []))), (33, (.ireturn, (34, [])))]
abbrev m_Mo_isStill : zM := (yX7_isStill, (cX7_isStill, (2, (some .boolean, (8, 190)))))
set_option maxRecDepth 20000 in
theorem tk_Mo_isStill : tb_Mo_isStill.all (z_ent m_Mo_isStill.2.1 m_Mo_isStill.2.2.1) = true := by decide +kernel
theorem yv_Mo_isStill : z_yV m_Mo_isStill 1 7 := ⟨⟨⟨by decide +kernel, by decide +kernel, by decide +kernel⟩, z_mem 56 (by decide +kernel) (by decide +kernel), z_mem 960 (by decide +kernel) (by decide +kernel)⟩, z_mem 959 (by decide +kernel) (by decide +kernel), z_mem 41 (by decide +kernel) (by decide +kernel), TX7, 23, rfl⟩
def tb_Mo_still : List (Nat × zI) := [(0, (.aload_n 0, (1, [0]))), (1, (.invokevirtual 79, (4, []))), (4, (.ifCond .ne 6, (7, [10]))), (7, (.bipush (-2), (9, []))), (9, (.ireturn, (10, []))), (10, (.iconst 1, (11, []))), (11, (.istore_n 1, (12, [1]))), (12, (.iconst 0, (13, []))), (13, (.istore_n 2, (14, [2]))), (14, (.iload_n 2, (15, [2]))), (15, (.aload_n 0, (16, [0]))), (16, (.getfield 59, (19, []))), (19, (.if_icmp .ge 19, (22, [38]))), (22, (.iload_n 1, (23, [1]))), (23, (.ifCond .eq 15, (26, [38]))), (26, (.aload_n 0, (27, [0]))), (27, (.iload_n 2, (28, [2]))), (28, (.invokevirtual 182, (31, []))), (31, (.istore_n 1, (32, [1]))), (32, (.iinc 2 1, (35, [2]))), (35, (.goto (-21), (38, [14]))), (38, (.iload_n 1, (39, [1]))), (39, (.ifCond .eq 7, (42, [46]))), (42, (.iconst 1, (43, []))), (43, (.goto 4, (46, [47]))), (46, (.iconst 0, (47, []))), (47, (.ireturn, (48, [])))]
abbrev m_Mo_still : zM := (yX7_still, (cX7_still, (3, (some .int, (9, 211)))))
set_option maxRecDepth 20000 in
theorem tk_Mo_still : tb_Mo_still.all (z_ent m_Mo_still.2.1 m_Mo_still.2.2.1) = true := by decide +kernel
theorem yv_Mo_still : z_yV m_Mo_still 0 7 := ⟨⟨⟨by decide +kernel, by decide +kernel, by decide +kernel⟩, z_mem 56 (by decide +kernel) (by decide +kernel), z_mem 956 (by decide +kernel) (by decide +kernel)⟩, z_mem 954 (by decide +kernel) (by decide +kernel), z_mem 955 (by decide +kernel) (by decide +kernel), TX7, 23, rfl⟩
def tb_Mo_turns : List (Nat × zI) := [(0, (.iload_n 1, (1, [1]))), (1, (.i2l, (2, []))), (2, (.lconst 1, (3, [1]))), (3, (.ldc2_w 185, (6, []))), (6, (.invokestatic 55, (9, []))), (9, (.ifCond .ne 5, (12, [14]))), (12, (.iconst (-1), (13, []))), (13, (.ireturn, (14, []))), (14, (.aload_n 0, (15, [0]))), (15, (.invokevirtual 79, (18, []))), (18, (.ifCond .ne 6, (21, [24]))), (21, (.bipush (-2), (23, []))), (23, (.ireturn, (24, []))), (24, (.iconst 0, (25, []))), (25, (.istore_n 2, (26, [2]))), (26, (.iconst 0, (27, []))), (27, (.istore_n 3, (28, [3]))), (28, (.iconst 0, (29, []))), (29, (.istore 4, (31, [4]))), (31, (.iload 4, (33, [4]))), (33, (.iload_n 1, (34, [1]))), (34, (.if_icmp .ge 59, (37, [93]))), (37, (.iload_n 3, (38, [3]))), (38, (.aload_n 0, (39, [0]))), (39, (.getfield 59, (42, []))), (42, (.if_icmp .ge 51, (45, [93]))), (45, (.iload 4, (47, [4]))), (47, (.aload_n 0, (48, [0]))), (48, (.getfield 59, (51, []))), (51, (.irem, (52, []))), (52, (.istore 5, (54, [5]))), (54, (.aload_n 0, (55, [0]))), (55, (.iload 5, (57, [5]))), (57, (.invokevirtual 182, (60, []))), (60, (.ifCond .eq 9, (63, [69]))), (63, (.iinc 3 1, (66, [3]))), (66, (.goto 21, (69, [87]))), (69, (.aload_n 0, (70, [0]))), (70, (.getfield 16, (73, []))), (73, (.iload 5, (75, [5]))), (75, (.aload_n 0, (76, [0]))), (76, (.iload 5, (78, [5]))), (78, (.invokevirtual 179, (81, []))), (81, (.iastore, (82, []))), (82, (.iinc 2 1, (85, [2]))), (85, (.iconst 0, (86, []))), (86, (.istore_n 3, (87, [3]))), (87, (.iinc 4 1, (90, [4]))), (90, (.goto (-59), (93, [31]))), (93, (.iload_n 2, (94, [2]))), (94, (.ireturn, (95, [])))]
abbrev m_Mo_turns : zM := (yX7_turns, (cX7_turns, (6, (some .int, (9, 211)))))
set_option maxRecDepth 20000 in
theorem tk_Mo_turns : tb_Mo_turns.all (z_ent m_Mo_turns.2.1 m_Mo_turns.2.2.1) = true := by decide +kernel
theorem yv_Mo_turns : z_yV m_Mo_turns 1 7 := ⟨⟨⟨by decide +kernel, by decide +kernel, by decide +kernel⟩, z_mem 56 (by decide +kernel) (by decide +kernel), z_mem 964 (by decide +kernel) (by decide +kernel)⟩, z_mem 962 (by decide +kernel) (by decide +kernel), z_mem 963 (by decide +kernel) (by decide +kernel), TX7, 23, rfl⟩
def tb_Mo_areThree : List (Nat × zI) := [(0, (.aload_n 0, (1, [0]))), (1, (.iload_n 1, (2, [1]))), (2, (.invokevirtual 75, (5, []))), (5, (.ifCond .eq 38, (8, [43]))), (8, (.aload_n 0, (9, [0]))), (9, (.iload_n 2, (10, [2]))), (10, (.invokevirtual 75, (13, []))), (13, (.ifCond .eq 30, (16, [43]))), (16, (.aload_n 0, (17, [0]))), (17, (.iload_n 3, (18, [3]))), (18, (.invokevirtual 75, (21, []))), (21, (.ifCond .eq 22, (24, [43]))), (24, (.iload_n 1, (25, [1]))), (25, (.iload_n 2, (26, [2]))), (26, (.if_icmp .eq 17, (29, [43]))), (29, (.iload_n 1, (30, [1]))), (30, (.iload_n 3, (31, [3]))), (31, (.if_icmp .eq 12, (34, [43]))), (34, (.iload_n 2, (35, [2]))), (35, (.iload_n 3, (36, [3]))), (36, (.if_icmp .eq 7, (39, [43]))), (39, (.iconst 1, (40, []))), (40, (.goto 4, (43, [44]))), (43, (.iconst 0, (44, []))), (44, (.ireturn, (45, [])))]
abbrev m_Mo_areThree : zM := (yX7_areThree, (cX7_areThree, (4, (some .boolean, (2, 46)))))
set_option maxRecDepth 20000 in
theorem tk_Mo_areThree : tb_Mo_areThree.all (z_ent m_Mo_areThree.2.1 m_Mo_areThree.2.2.1) = true := by decide +kernel
theorem yv_Mo_areThree : z_yV m_Mo_areThree 3 7 := ⟨⟨⟨by decide +kernel, by decide +kernel, by decide +kernel⟩, z_mem 56 (by decide +kernel) (by decide +kernel), z_mem 973 (by decide +kernel) (by decide +kernel)⟩, z_mem 972 (by decide +kernel) (by decide +kernel), z_mem 42 (by decide +kernel) (by decide +kernel), TX7, 23, rfl⟩
def tb_Mo_leagueOf : List (Nat × zI) := [(0, (.aload_n 0, (1, [0]))), (1, (.getfield 16, (4, []))), (4, (.iload_n 1, (5, [1]))), (5, (.iaload, (6, []))), (6, (.istore 4, (8, [4]))), (8, (.aload_n 0, (9, [0]))), (9, (.getfield 16, (12, []))), (12, (.iload_n 2, (13, [2]))), (13, (.iaload, (14, []))), (14, (.istore 5, (16, [5]))), (16, (.iconst 0, (17, []))), (17, (.istore 6, (19, [6]))), (19, (.aload_n 0, (20, [0]))), (20, (.iconst (-1), (21, []))), (21, (.putfield 187, (24, []))), (24, (.iconst 0, (25, []))), (25, (.istore 7, (27, [7]))), (27, (.iload 7, (29, [7]))), (29, (.sipush 441, (32, []))), (32, (.if_icmp .ge 78, (35, [110]))), (35, (.aload_n 0, (36, [0]))), (36, (.getfield 16, (39, []))), (39, (.iload_n 1, (40, [1]))), (40, (.iload 7, (42, [7]))), (42, (.bipush 21, (44, []))), (44, (.idiv, (45, []))), (45, (.iastore, (46, []))), (46, (.aload_n 0, (47, [0]))), (47, (.getfield 16, (50, []))), (50, (.iload_n 2, (51, [2]))), (51, (.iload 7, (53, [7]))), (53, (.bipush 21, (55, []))), (55, (.irem, (56, []))), (56, (.iastore, (57, []))), (57, (.aload_n 0, (58, [0]))), (58, (.iload_n 3, (59, [3]))), (59, (.invokevirtual 173, (62, []))), (62, (.istore 8, (64, [8]))), (64, (.iload 8, (66, [8]))), (66, (.aload_n 0, (67, [0]))), (67, (.getfield 187, (70, []))), (70, (.if_icmp .le 8, (73, [78]))), (73, (.iload 7, (75, [7]))), (75, (.goto 5, (78, [80]))), (78, (.iload 6, (80, [6]))), (80, (.istore 6, (82, [6]))), (82, (.aload_n 0, (83, [0]))), (83, (.iload 8, (85, [8]))), (85, (.aload_n 0, (86, [0]))), (86, (.getfield 187, (89, []))), (89, (.if_icmp .le 8, (92, [97]))), (92, (.iload 8, (94, [8]))), (94, (.goto 7, (97, [101]))), (97, (.aload_n 0, (98, [0]))), (98, (.getfield 187, (101, []))), (101, (.putfield 187, (104, []))), (104, (.iinc 7 1, (107, [7]))), (107, (.goto (-80), (110, [27]))), (110, (.aload_n 0, (111, [0]))), (111, (.getfield 16, (114, []))), (114, (.iload_n 1, (115, [1]))), (115, (.iload 4, (117, [4]))), (117, (.iastore, (118, []))), (118, (.aload_n 0, (119, [0]))), (119, (.getfield 16, (122, []))), (122, (.iload_n 2, (123, [2]))), (123, (.iload 5, (125, [5]))), (125, (.iastore, (126, []))), (126, (.iload 6, (128, [6]))), (128, (.ireturn, (129, [])))]
abbrev m_Mo_leagueOf : zM := (yX7_leagueOf, (cX7_leagueOf, (9, (some .int, (6, 141)))))
set_option maxRecDepth 20000 in
theorem tk_Mo_leagueOf : tb_Mo_leagueOf.all (z_ent m_Mo_leagueOf.2.1 m_Mo_leagueOf.2.2.1) = true := by decide +kernel
theorem yv_Mo_leagueOf : z_yV m_Mo_leagueOf 3 7 := ⟨⟨⟨by decide +kernel, by decide +kernel, by decide +kernel⟩, z_mem 56 (by decide +kernel) (by decide +kernel), z_mem 977 (by decide +kernel) (by decide +kernel)⟩, z_mem 976 (by decide +kernel) (by decide +kernel), z_mem 43 (by decide +kernel) (by decide +kernel), TX7, 23, rfl⟩
def tb_Mo_league : List (Nat × zI) := [(0, (.aload_n 0, (1, [0]))), (1, (.iload_n 1, (2, [1]))), (2, (.iload_n 2, (3, [2]))), (3, (.iload_n 3, (4, [3]))), (4, (.invokevirtual 190, (7, []))), (7, (.ifCond .eq 14, (10, [21]))), (10, (.iload 4, (12, [4]))), (12, (.i2l, (13, []))), (13, (.lconst 0, (14, [0]))), (14, (.lconst 1, (15, [1]))), (15, (.invokestatic 55, (18, []))), (18, (.ifCond .ne 5, (21, [23]))), (21, (.iconst (-1), (22, []))), (22, (.ireturn, (23, []))), (23, (.aload_n 0, (24, [0]))), (24, (.invokevirtual 79, (27, []))), (27, (.ifCond .ne 6, (30, [33]))), (30, (.bipush (-2), (32, []))), (32, (.ireturn, (33, []))), (33, (.aload_n 0, (34, [0]))), (34, (.iload_n 1, (35, [1]))), (35, (.iload_n 2, (36, [2]))), (36, (.iload_n 3, (37, [3]))), (37, (.invokevirtual 194, (40, []))), (40, (.istore 5, (42, [5]))), (42, (.iload 4, (44, [4]))), (44, (.ifCond .ne 11, (47, [55]))), (47, (.iload 5, (49, [5]))), (49, (.bipush 21, (51, []))), (51, (.idiv, (52, []))), (52, (.goto 8, (55, [60]))), (55, (.iload 5, (57, [5]))), (57, (.bipush 21, (59, []))), (59, (.irem, (60, []))), (60, (.ireturn, (61, [])))]
abbrev m_Mo_league : zM := (yX7_league, (cX7_league, (6, (some .int, (7, 169)))))
set_option maxRecDepth 20000 in
theorem tk_Mo_league : tb_Mo_league.all (z_ent m_Mo_league.2.1 m_Mo_league.2.2.1) = true := by decide +kernel
theorem yv_Mo_league : z_yV m_Mo_league 4 7 := ⟨⟨⟨by decide +kernel, by decide +kernel, by decide +kernel⟩, z_mem 56 (by decide +kernel) (by decide +kernel), z_mem 969 (by decide +kernel) (by decide +kernel)⟩, z_mem 967 (by decide +kernel) (by decide +kernel), z_mem 968 (by decide +kernel) (by decide +kernel), TX7, 23, rfl⟩
def tb_Mo_shun : List (Nat × zI) := [(0, (.aload_n 0, (1, [0]))), (1, (.iload_n 1, (2, [1]))), (2, (.iload_n 2, (3, [2]))), (3, (.iload_n 3, (4, [3]))), (4, (.invokevirtual 190, (7, []))), (7, (.ifCond .ne 5, (10, [12]))), (10, (.iconst (-1), (11, []))), (11, (.ireturn, (12, []))), (12, (.aload_n 0, (13, [0]))), (13, (.invokevirtual 79, (16, []))), (16, (.ifCond .ne 6, (19, [22]))), (19, (.bipush (-2), (21, []))), (21, (.ireturn, (22, []))), (22, (.aload_n 0, (23, [0]))), (23, (.getfield 16, (26, []))), (26, (.iload_n 3, (27, [3]))), (27, (.iaload, (28, []))), (28, (.istore 4, (30, [4]))), (30, (.iconst 0, (31, []))), (31, (.istore 5, (33, [5]))), (33, (.iconst (-1), (34, []))), (34, (.istore 6, (36, [6]))), (36, (.iconst 0, (37, []))), (37, (.istore 7, (39, [7]))), (39, (.iload 7, (41, [7]))), (41, (.bipush 21, (43, []))), (43, (.if_icmp .ge 73, (46, [116]))), (46, (.aload_n 0, (47, [0]))), (47, (.getfield 16, (50, []))), (50, (.iload_n 3, (51, [3]))), (51, (.iload 7, (53, [7]))), (53, (.iastore, (54, []))), (54, (.aload_n 0, (55, [0]))), (55, (.iload_n 1, (56, [1]))), (56, (.iload_n 2, (57, [2]))), (57, (.iload_n 3, (58, [3]))), (58, (.invokevirtual 194, (61, []))), (61, (.pop, (62, []))), (62, (.iload 6, (64, [6]))), (64, (.ifCond .lt 12, (67, [76]))), (67, (.aload_n 0, (68, [0]))), (68, (.getfield 187, (71, []))), (71, (.iload 6, (73, [6]))), (73, (.if_icmp .ge 8, (76, [81]))), (76, (.iload 7, (78, [7]))), (78, (.goto 5, (81, [83]))), (81, (.iload 5, (83, [5]))), (83, (.istore 5, (85, [5]))), (85, (.iload 6, (87, [6]))), (87, (.ifCond .lt 12, (90, [99]))), (90, (.aload_n 0, (91, [0]))), (91, (.getfield 187, (94, []))), (94, (.iload 6, (96, [6]))), (96, (.if_icmp .ge 10, (99, [106]))), (99, (.aload_n 0, (100, [0]))), (100, (.getfield 187, (103, []))), (103, (.goto 5, (106, [108]))), (106, (.iload 6, (108, [6]))), (108, (.istore 6, (110, [6]))), (110, (.iinc 7 1, (113, [7]))), (113, (.goto (-74), (116, [39]))), (116, (.aload_n 0, (117, [0]))), (117, (.getfield 16, (120, []))), (120, (.iload_n 3, (121, [3]))), (121, (.iload 4, (123, [4]))), (123, (.iastore, (124, []))), (124, (.iload 5, (126, [5]))), (126, (.ireturn, (127, [])))]
abbrev m_Mo_shun : zM := (yX7_shun, (cX7_shun, (8, (some .int, (7, 169)))))
set_option maxRecDepth 20000 in
theorem tk_Mo_shun : tb_Mo_shun.all (z_ent m_Mo_shun.2.1 m_Mo_shun.2.2.1) = true := by decide +kernel
theorem yv_Mo_shun : z_yV m_Mo_shun 3 7 := ⟨⟨⟨by decide +kernel, by decide +kernel, by decide +kernel⟩, z_mem 56 (by decide +kernel) (by decide +kernel), z_mem 981 (by decide +kernel) (by decide +kernel)⟩, z_mem 979 (by decide +kernel) (by decide +kernel), z_mem 980 (by decide +kernel) (by decide +kernel), TX7, 23, rfl⟩
def tb_Mo_areSums : List (Nat × zI) := [(0, (.iload_n 0, (1, [0]))), (1, (.i2l, (2, []))), (2, (.lconst 1, (3, [1]))), (3, (.ldc2_w 198, (6, []))), (6, (.invokestatic 55, (9, []))), (9, (.ireturn, (10, [])))]
abbrev m_Mo_areSums : zM := (yX7_areSums, (cX7_areSums, (1, (some .boolean, (1, 25)))))
set_option maxRecDepth 20000 in
theorem tk_Mo_areSums : tb_Mo_areSums.all (z_ent m_Mo_areSums.2.1 m_Mo_areSums.2.2.1) = true := by decide +kernel
theorem ys_Mo_areSums : z_yS m_Mo_areSums 1 := ⟨⟨⟨by decide +kernel, by decide +kernel, by decide +kernel⟩, z_mem 56 (by decide +kernel) (by decide +kernel), z_mem 988 (by decide +kernel) (by decide +kernel)⟩, z_mem 987 (by decide +kernel) (by decide +kernel)⟩
def tb_Mo_host : List (Nat × zI) := [(0, (.iload_n 1, (1, [1]))), (1, (.invokestatic 200, (4, []))), (4, (.ifCond .eq 11, (7, [15]))), (7, (.aload_n 0, (8, [0]))), (8, (.iload_n 2, (9, [2]))), (9, (.invokevirtual 75, (12, []))), (12, (.ifCond .ne 5, (15, [17]))), (15, (.iconst (-1), (16, []))), (16, (.ireturn, (17, []))), (17, (.iconst (-1), (18, []))), (18, (.istore_n 3, (19, [3]))), (19, (.iconst (-1), (20, []))), (20, (.istore 4, (22, [4]))), (22, (.iconst 0, (23, []))), (23, (.istore 5, (25, [5]))), (25, (.iload 5, (27, [5]))), (27, (.bipush 21, (29, []))), (29, (.if_icmp .ge 61, (32, [90]))), (32, (.iload_n 1, (33, [1]))), (33, (.iload 5, (35, [5]))), (35, (.invokestatic 129, (38, []))), (38, (.ifCond .eq 13, (41, [51]))), (41, (.aload_n 0, (42, [0]))), (42, (.iload_n 2, (43, [2]))), (43, (.iload 5, (45, [5]))), (45, (.invokevirtual 160, (48, []))), (48, (.goto 4, (51, [52]))), (51, (.iconst (-1), (52, []))), (52, (.istore 6, (54, [6]))), (54, (.iload 6, (56, [6]))), (56, (.iload 4, (58, [4]))), (58, (.if_icmp .le 8, (61, [66]))), (61, (.iload 5, (63, [5]))), (63, (.goto 4, (66, [67]))), (66, (.iload_n 3, (67, [3]))), (67, (.istore_n 3, (68, [3]))), (68, (.iload 6, (70, [6]))), (70, (.iload 4, (72, [4]))), (72, (.if_icmp .le 8, (75, [80]))), (75, (.iload 6, (77, [6]))), (77, (.goto 5, (80, [82]))), (80, (.iload 4, (82, [4]))), (82, (.istore 4, (84, [4]))), (84, (.iinc 5 1, (87, [5]))), (87, (.goto (-62), (90, [25]))), (90, (.iload_n 3, (91, [3]))), (91, (.ireturn, (92, [])))]
abbrev m_Mo_host : zM := (yX7_host, (cX7_host, (7, (some .int, (5, 118)))))
set_option maxRecDepth 20000 in
theorem tk_Mo_host : tb_Mo_host.all (z_ent m_Mo_host.2.1 m_Mo_host.2.2.1) = true := by decide +kernel
theorem yv_Mo_host : z_yV m_Mo_host 2 7 := ⟨⟨⟨by decide +kernel, by decide +kernel, by decide +kernel⟩, z_mem 56 (by decide +kernel) (by decide +kernel), z_mem 985 (by decide +kernel) (by decide +kernel)⟩, z_mem 983 (by decide +kernel) (by decide +kernel), z_mem 984 (by decide +kernel) (by decide +kernel), TX7, 23, rfl⟩
def tb_Mo_choice : List (Nat × zI) := [(0, (.iload_n 1, (1, [1]))), (1, (.invokestatic 200, (4, []))), (4, (.ifCond .ne 5, (7, [9]))), (7, (.iconst (-1), (8, []))), (8, (.ireturn, (9, []))), (9, (.iconst 0, (10, []))), (10, (.istore_n 2, (11, [2]))), (11, (.iconst 1, (12, []))), (12, (.istore_n 3, (13, [3]))), (13, (.iload_n 3, (14, [3]))), (14, (.bipush 21, (16, []))), (16, (.if_icmp .ge 36, (19, [52]))), (19, (.aload_n 0, (20, [0]))), (20, (.getfield 59, (23, []))), (23, (.ifCond .le 29, (26, [52]))), (26, (.iload_n 2, (27, [2]))), (27, (.iload_n 1, (28, [1]))), (28, (.iload_n 3, (29, [3]))), (29, (.invokestatic 129, (32, []))), (32, (.ifCond .eq 11, (35, [43]))), (35, (.aload_n 0, (36, [0]))), (36, (.iload_n 3, (37, [3]))), (37, (.invokevirtual 150, (40, []))), (40, (.goto 4, (43, [44]))), (43, (.iconst 0, (44, []))), (44, (.ior, (45, []))), (45, (.istore_n 2, (46, [2]))), (46, (.iinc 3 1, (49, [3]))), (49, (.goto (-36), (52, [13]))), (52, (.iload_n 2, (53, [2]))), (53, (.invokestatic 153, (56, []))), (56, (.ireturn, (57, [])))]
abbrev m_Mo_choice : zM := (yX7_choice, (cX7_choice, (4, (some .int, (4, 95)))))
set_option maxRecDepth 20000 in
theorem tk_Mo_choice : tb_Mo_choice.all (z_ent m_Mo_choice.2.1 m_Mo_choice.2.2.1) = true := by decide +kernel
theorem yv_Mo_choice : z_yV m_Mo_choice 1 7 := ⟨⟨⟨by decide +kernel, by decide +kernel, by decide +kernel⟩, z_mem 56 (by decide +kernel) (by decide +kernel), z_mem 993 (by decide +kernel) (by decide +kernel)⟩, z_mem 991 (by decide +kernel) (by decide +kernel), z_mem 992 (by decide +kernel) (by decide +kernel), TX7, 23, rfl⟩
def tb_Mo_night : List (Nat × zI) := [(0, (.iload_n 1, (1, [1]))), (1, (.i2l, (2, []))), (2, (.invokestatic 63, (5, []))), (5, (.ifCond .ne 5, (8, [10]))), (8, (.iconst (-1), (9, []))), (9, (.ireturn, (10, []))), (10, (.aload_n 0, (11, [0]))), (11, (.getfield 85, (14, []))), (14, (.bipush 12, (16, []))), (16, (.if_icmp .ne 6, (19, [22]))), (19, (.bipush (-3), (21, []))), (21, (.ireturn, (22, []))), (22, (.aload_n 0, (23, [0]))), (23, (.getfield 59, (26, []))), (26, (.ifCond .ne 6, (29, [32]))), (29, (.bipush (-2), (31, []))), (31, (.ireturn, (32, []))), (32, (.aload_n 0, (33, [0]))), (33, (.getfield 22, (36, []))), (36, (.aload_n 0, (37, [0]))), (37, (.getfield 85, (40, []))), (40, (.iload_n 1, (41, [1]))), (41, (.iastore, (42, []))), (42, (.aload_n 0, (43, [0]))), (43, (.getfield 25, (46, []))), (46, (.aload_n 0, (47, [0]))), (47, (.getfield 85, (50, []))), (50, (.aload_n 0, (51, [0]))), (51, (.getfield 59, (54, []))), (54, (.iastore, (55, []))), (55, (.aload_n 0, (56, [0]))), (56, (.getfield 28, (59, []))), (59, (.aload_n 0, (60, [0]))), (60, (.getfield 85, (63, []))), (63, (.aload_n 0, (64, [0]))), (64, (.iload_n 1, (65, [1]))), (65, (.invokevirtual 150, (68, []))), (68, (.iastore, (69, []))), (69, (.iconst 0, (70, []))), (70, (.istore_n 2, (71, [2]))), (71, (.iload_n 2, (72, [2]))), (72, (.aload_n 0, (73, [0]))), (73, (.getfield 59, (76, []))), (76, (.if_icmp .ge 29, (79, [105]))), (79, (.aload_n 0, (80, [0]))), (80, (.getfield 31, (83, []))), (83, (.bipush 9, (85, []))), (85, (.aload_n 0, (86, [0]))), (86, (.getfield 85, (89, []))), (89, (.imul, (90, []))), (90, (.iload_n 2, (91, [2]))), (91, (.iadd, (92, []))), (92, (.aload_n 0, (93, [0]))), (93, (.getfield 16, (96, []))), (96, (.iload_n 2, (97, [2]))), (97, (.iaload, (98, []))), (98, (.iastore, (99, []))), (99, (.iinc 2 1, (102, [2]))), (102, (.goto (-31), (105, [71]))), (105, (.aload_n 0, (106, [0]))), (106, (.dup, (107, []))), (107, (.getfield 85, (110, []))), (110, (.iconst 1, (111, []))), (111, (.iadd, (112, []))), (112, (.putfield 85, (115, []))), (115, (.aload_n 0, (116, [0]))), (116, (.getfield 85, (119, []))), (119, (.iconst 1, (120, []))), (120, (.isub, (121, []))), (121, (.ireturn, (122, [])))]
abbrev m_Mo_night : zM := (yX7_night, (cX7_night, (3, (some .int, (4, 95)))))
set_option maxRecDepth 20000 in
theorem tk_Mo_night : tb_Mo_night.all (z_ent m_Mo_night.2.1 m_Mo_night.2.2.1) = true := by decide +kernel
theorem yv_Mo_night : z_yV m_Mo_night 1 7 := ⟨⟨⟨by decide +kernel, by decide +kernel, by decide +kernel⟩, z_mem 56 (by decide +kernel) (by decide +kernel), z_mem 997 (by decide +kernel) (by decide +kernel)⟩, z_mem 995 (by decide +kernel) (by decide +kernel), z_mem 996 (by decide +kernel) (by decide +kernel), TX7, 23, rfl⟩
def tb_Mo_wasThere : List (Nat × zI) := [(0, (.aload_n 0, (1, [0]))), (1, (.getfield 85, (4, []))), (4, (.ifCond .le 7, (7, [11]))), (7, (.iconst 1, (8, []))), (8, (.goto 4, (11, [12]))), (11, (.iconst 0, (12, []))), (12, (.istore_n 2, (13, [2]))), (13, (.iconst 0, (14, []))), (14, (.istore_n 3, (15, [3]))), (15, (.iload_n 3, (16, [3]))), (16, (.aload_n 0, (17, [0]))), (17, (.getfield 85, (20, []))), (20, (.if_icmp .ge 29, (23, [49]))), (23, (.iload_n 2, (24, [2]))), (24, (.ifCond .eq 17, (27, [41]))), (27, (.iload_n 1, (28, [1]))), (28, (.aload_n 0, (29, [0]))), (29, (.getfield 25, (32, []))), (32, (.iload_n 3, (33, [3]))), (33, (.iaload, (34, []))), (34, (.if_icmp .ge 7, (37, [41]))), (37, (.iconst 1, (38, []))), (38, (.goto 4, (41, [42]))), (41, (.iconst 0, (42, []))), (42, (.istore_n 2, (43, [2]))), (43, (.iinc 3 1, (46, [3]))), (46, (.goto (-31), (49, [15]))), (49, (.iload_n 2, (50, [2]))), (50, (.ireturn, (51, [])))]
abbrev m_Mo_wasThere : zM := (yX7_wasThere, (cX7_wasThere, (4, (some .boolean, (0, 0)))))
set_option maxRecDepth 20000 in
theorem tk_Mo_wasThere : tb_Mo_wasThere.all (z_ent m_Mo_wasThere.2.1 m_Mo_wasThere.2.2.1) = true := by decide +kernel
theorem yv_Mo_wasThere : z_yV m_Mo_wasThere 1 7 := ⟨⟨⟨by decide +kernel, by decide +kernel, by decide +kernel⟩, z_mem 56 (by decide +kernel) (by decide +kernel), z_mem 1005 (by decide +kernel) (by decide +kernel)⟩, z_mem 1004 (by decide +kernel) (by decide +kernel), z_mem 44 (by decide +kernel) (by decide +kernel), TX7, 23, rfl⟩
def tb_Mo_knew : List (Nat × zI) := [(0, (.iconst 0, (1, []))), (1, (.istore_n 1, (2, [1]))), (2, (.iconst 0, (3, []))), (3, (.istore_n 2, (4, [2]))), (4, (.iload_n 2, (5, [2]))), (5, (.aload_n 0, (6, [0]))), (6, (.getfield 59, (9, []))), (9, (.if_icmp .ge 79, (12, [88]))), (12, (.aload_n 0, (13, [0]))), (13, (.iload_n 2, (14, [2]))), (14, (.invokevirtual 203, (17, []))), (17, (.istore_n 3, (18, [3]))), (18, (.iconst 0, (19, []))), (19, (.istore 4, (21, [4]))), (21, (.iload 4, (23, [4]))), (23, (.aload_n 0, (24, [0]))), (24, (.getfield 85, (27, []))), (27, (.if_icmp .ge 41, (30, [68]))), (30, (.iload_n 3, (31, [3]))), (31, (.ifCond .eq 37, (34, [68]))), (34, (.aload_n 0, (35, [0]))), (35, (.getfield 31, (38, []))), (38, (.bipush 9, (40, []))), (40, (.iload 4, (42, [4]))), (42, (.imul, (43, []))), (43, (.iload_n 2, (44, [2]))), (44, (.iadd, (45, []))), (45, (.iaload, (46, []))), (46, (.aload_n 0, (47, [0]))), (47, (.getfield 22, (50, []))), (50, (.iload 4, (52, [4]))), (52, (.iaload, (53, []))), (53, (.if_icmp .ne 7, (56, [60]))), (56, (.iconst 1, (57, []))), (57, (.goto 4, (60, [61]))), (60, (.iconst 0, (61, []))), (61, (.istore_n 3, (62, [3]))), (62, (.iinc 4 1, (65, [4]))), (65, (.goto (-44), (68, [21]))), (68, (.iload_n 1, (69, [1]))), (69, (.iload_n 3, (70, [3]))), (70, (.ifCond .eq 9, (73, [79]))), (73, (.iconst 1, (74, []))), (74, (.iload_n 2, (75, [2]))), (75, (.ishl, (76, []))), (76, (.goto 4, (79, [80]))), (79, (.iconst 0, (80, []))), (80, (.ior, (81, []))), (81, (.istore_n 1, (82, [1]))), (82, (.iinc 2 1, (85, [2]))), (85, (.goto (-81), (88, [4]))), (88, (.iload_n 1, (89, [1]))), (89, (.ireturn, (90, [])))]
abbrev m_Mo_knew : zM := (yX7_knew, (cX7_knew, (5, (some .int, (1, 23)))))
set_option maxRecDepth 20000 in
theorem tk_Mo_knew : tb_Mo_knew.all (z_ent m_Mo_knew.2.1 m_Mo_knew.2.2.1) = true := by decide +kernel
theorem yv_Mo_knew : z_yV m_Mo_knew 0 7 := ⟨⟨⟨by decide +kernel, by decide +kernel, by decide +kernel⟩, z_mem 56 (by decide +kernel) (by decide +kernel), z_mem 1001 (by decide +kernel) (by decide +kernel)⟩, z_mem 999 (by decide +kernel) (by decide +kernel), z_mem 1000 (by decide +kernel) (by decide +kernel), TX7, 23, rfl⟩
def tb_Mo_areLeague : List (Nat × zI) := [(0, (.aload_n 0, (1, [0]))), (1, (.iload_n 1, (2, [1]))), (2, (.invokevirtual 203, (5, []))), (5, (.ifCond .eq 23, (8, [28]))), (8, (.aload_n 0, (9, [0]))), (9, (.iload_n 2, (10, [2]))), (10, (.invokevirtual 203, (13, []))), (13, (.ifCond .eq 15, (16, [28]))), (16, (.aload_n 0, (17, [0]))), (17, (.iload_n 3, (18, [3]))), (18, (.invokevirtual 203, (21, []))), (21, (.ifCond .eq 7, (24, [28]))), (24, (.iconst 1, (25, []))), (25, (.goto 4, (28, [29]))), (28, (.iconst 0, (29, []))), (29, (.istore 4, (31, [4]))), (31, (.iconst 0, (32, []))), (32, (.istore 5, (34, [5]))), (34, (.iload 5, (36, [5]))), (36, (.aload_n 0, (37, [0]))), (37, (.getfield 85, (40, []))), (40, (.if_icmp .ge 105, (43, [145]))), (43, (.iload 4, (45, [4]))), (45, (.ifCond .eq 100, (48, [145]))), (48, (.aload_n 0, (49, [0]))), (49, (.getfield 31, (52, []))), (52, (.bipush 9, (54, []))), (54, (.iload 5, (56, [5]))), (56, (.imul, (57, []))), (57, (.iload_n 3, (58, [3]))), (58, (.iadd, (59, []))), (59, (.iaload, (60, []))), (60, (.istore 6, (62, [6]))), (62, (.aload_n 0, (63, [0]))), (63, (.getfield 31, (66, []))), (66, (.bipush 9, (68, []))), (68, (.iload 5, (70, [5]))), (70, (.imul, (71, []))), (71, (.iload_n 1, (72, [1]))), (72, (.iadd, (73, []))), (73, (.iaload, (74, []))), (74, (.istore 7, (76, [7]))), (76, (.aload_n 0, (77, [0]))), (77, (.getfield 31, (80, []))), (80, (.bipush 9, (82, []))), (82, (.iload 5, (84, [5]))), (84, (.imul, (85, []))), (85, (.iload_n 2, (86, [2]))), (86, (.iadd, (87, []))), (87, (.iaload, (88, []))), (88, (.istore 8, (90, [8]))), (90, (.aload_n 0, (91, [0]))), (91, (.getfield 28, (94, []))), (94, (.iload 5, (96, [5]))), (96, (.iaload, (97, []))), (97, (.iload_n 3, (98, [3]))), (98, (.invokestatic 129, (101, []))), (101, (.ifCond .eq 35, (104, [136]))), (104, (.iload 7, (106, [7]))), (106, (.iload 6, (108, [6]))), (108, (.if_icmp .ge 10, (111, [118]))), (111, (.iload 8, (113, [8]))), (113, (.iload 6, (115, [6]))), (115, (.if_icmp .gt 17, (118, [132]))), (118, (.iload 7, (120, [7]))), (120, (.iload 6, (122, [6]))), (122, (.if_icmp .le 14, (125, [136]))), (125, (.iload 8, (127, [8]))), (127, (.iload 6, (129, [6]))), (129, (.if_icmp .ge 7, (132, [136]))), (132, (.iconst 1, (133, []))), (133, (.goto 4, (136, [137]))), (136, (.iconst 0, (137, []))), (137, (.istore 4, (139, [4]))), (139, (.iinc 5 1, (142, [5]))), (142, (.goto (-108), (145, [34]))), (145, (.iload 4, (147, [4]))), (147, (.ireturn, (148, [])))]
abbrev m_Mo_areLeague : zM := (yX7_areLeague, (cX7_areLeague, (9, (some .boolean, (1, 23)))))
set_option maxRecDepth 20000 in
theorem tk_Mo_areLeague : tb_Mo_areLeague.all (z_ent m_Mo_areLeague.2.1 m_Mo_areLeague.2.2.1) = true := by decide +kernel
theorem yv_Mo_areLeague : z_yV m_Mo_areLeague 3 7 := ⟨⟨⟨by decide +kernel, by decide +kernel, by decide +kernel⟩, z_mem 56 (by decide +kernel) (by decide +kernel), z_mem 1013 (by decide +kernel) (by decide +kernel)⟩, z_mem 1012 (by decide +kernel) (by decide +kernel), z_mem 45 (by decide +kernel) (by decide +kernel), TX7, 23, rfl⟩
def tb_Mo_leagues : List (Nat × zI) := [(0, (.aload_n 0, (1, [0]))), (1, (.iload_n 1, (2, [1]))), (2, (.invokevirtual 75, (5, []))), (5, (.ifCond .eq 13, (8, [18]))), (8, (.iload_n 2, (9, [2]))), (9, (.i2l, (10, []))), (10, (.lconst 0, (11, [0]))), (11, (.lconst 1, (12, [1]))), (12, (.invokestatic 55, (15, []))), (15, (.ifCond .ne 5, (18, [20]))), (18, (.iconst (-1), (19, []))), (19, (.ireturn, (20, []))), (20, (.iconst 0, (21, []))), (21, (.istore_n 3, (22, [3]))), (22, (.bipush (-4), (24, []))), (24, (.istore 4, (26, [4]))), (26, (.iconst 0, (27, []))), (27, (.istore 5, (29, [5]))), (29, (.iload 5, (31, [5]))), (31, (.aload_n 0, (32, [0]))), (32, (.getfield 59, (35, []))), (35, (.if_icmp .ge 76, (38, [111]))), (38, (.iload 5, (40, [5]))), (40, (.iconst 1, (41, []))), (41, (.iadd, (42, []))), (42, (.istore 6, (44, [6]))), (44, (.iload 6, (46, [6]))), (46, (.aload_n 0, (47, [0]))), (47, (.getfield 59, (50, []))), (50, (.if_icmp .ge 55, (53, [105]))), (53, (.iload 5, (55, [5]))), (55, (.iload_n 1, (56, [1]))), (56, (.if_icmp .eq 43, (59, [99]))), (59, (.iload 6, (61, [6]))), (61, (.iload_n 1, (62, [1]))), (62, (.if_icmp .eq 37, (65, [99]))), (65, (.aload_n 0, (66, [0]))), (66, (.iload 5, (68, [5]))), (68, (.iload 6, (70, [6]))), (70, (.iload_n 1, (71, [1]))), (71, (.invokevirtual 206, (74, []))), (74, (.ifCond .eq 25, (77, [99]))), (77, (.iload_n 3, (78, [3]))), (78, (.ifCond .ne 14, (81, [92]))), (81, (.bipush 10, (83, []))), (83, (.iload 5, (85, [5]))), (85, (.imul, (86, []))), (86, (.iload 6, (88, [6]))), (88, (.iadd, (89, []))), (89, (.goto 5, (92, [94]))), (92, (.iload 4, (94, [4]))), (94, (.istore 4, (96, [4]))), (96, (.iinc 3 1, (99, [3]))), (99, (.iinc 6 1, (102, [6]))), (102, (.goto (-58), (105, [44]))), (105, (.iinc 5 1, (108, [5]))), (108, (.goto (-79), (111, [29]))), (111, (.iload_n 2, (112, [2]))), (112, (.ifCond .ne 7, (115, [119]))), (115, (.iload_n 3, (116, [3]))), (116, (.goto 5, (119, [121]))), (119, (.iload 4, (121, [4]))), (121, (.ireturn, (122, [])))]
abbrev m_Mo_leagues : zM := (yX7_leagues, (cX7_leagues, (7, (some .int, (2, 51)))))
set_option maxRecDepth 20000 in
theorem tk_Mo_leagues : tb_Mo_leagues.all (z_ent m_Mo_leagues.2.1 m_Mo_leagues.2.2.1) = true := by decide +kernel
theorem yv_Mo_leagues : z_yV m_Mo_leagues 2 7 := ⟨⟨⟨by decide +kernel, by decide +kernel, by decide +kernel⟩, z_mem 56 (by decide +kernel) (by decide +kernel), z_mem 1009 (by decide +kernel) (by decide +kernel)⟩, z_mem 1007 (by decide +kernel) (by decide +kernel), z_mem 1008 (by decide +kernel) (by decide +kernel), TX7, 23, rfl⟩
def tb_Mo_forget : List (Nat × zI) := [(0, (.aload_n 0, (1, [0]))), (1, (.getfield 85, (4, []))), (4, (.istore_n 1, (5, [1]))), (5, (.aload_n 0, (6, [0]))), (6, (.iconst 0, (7, []))), (7, (.putfield 85, (10, []))), (10, (.iload_n 1, (11, [1]))), (11, (.ireturn, (12, [])))]
abbrev m_Mo_forget : zM := (yX7_forget, (cX7_forget, (2, (some .int, (0, 0)))))
set_option maxRecDepth 20000 in
theorem tk_Mo_forget : tb_Mo_forget.all (z_ent m_Mo_forget.2.1 m_Mo_forget.2.2.1) = true := by decide +kernel
theorem yv_Mo_forget : z_yV m_Mo_forget 0 7 := ⟨⟨⟨by decide +kernel, by decide +kernel, by decide +kernel⟩, z_mem 56 (by decide +kernel) (by decide +kernel), z_mem 1017 (by decide +kernel) (by decide +kernel)⟩, z_mem 1015 (by decide +kernel) (by decide +kernel), z_mem 1016 (by decide +kernel) (by decide +kernel), TX7, 23, rfl⟩
def tb_Mo_carried : List (Nat × zI) := [(0, (.iload_n 1, (1, [1]))), (1, (.istore 4, (3, [4]))), (3, (.iload 4, (5, [4]))), (5, (.bipush 21, (7, []))), (7, (.if_icmp .ge 33, (10, [40]))), (10, (.aload_n 0, (11, [0]))), (11, (.getfield 7, (14, []))), (14, (.iload 4, (16, [4]))), (16, (.iload_n 3, (17, [3]))), (17, (.ifCond .eq 7, (20, [24]))), (20, (.iload_n 2, (21, [2]))), (21, (.goto 10, (24, [31]))), (24, (.aload_n 0, (25, [0]))), (25, (.getfield 7, (28, []))), (28, (.iload 4, (30, [4]))), (30, (.iaload, (31, []))), (31, (.iastore, (32, []))), (32, (.aload_n 0, (33, [0]))), (33, (.getfield 7, (36, []))), (36, (.iload 4, (38, [4]))), (38, (.iaload, (39, []))), (39, (.ireturn, (40, []))), (40, (.iinc 4 (-21), (43, [4]))), (43, (.iload 4, (45, [4]))), (45, (.bipush 18, (47, []))), (47, (.if_icmp .ge 93, (50, [140]))), (50, (.iload 4, (52, [4]))), (52, (.bipush 9, (54, []))), (54, (.irem, (55, []))), (55, (.istore 5, (57, [5]))), (57, (.aload_n 0, (58, [0]))), (58, (.getfield 13, (61, []))), (61, (.iload 5, (63, [5]))), (63, (.iload_n 3, (64, [3]))), (64, (.ifCond .eq 14, (67, [78]))), (67, (.iload 4, (69, [4]))), (69, (.bipush 9, (71, []))), (71, (.if_icmp .ge 7, (74, [78]))), (74, (.iload_n 2, (75, [2]))), (75, (.goto 10, (78, [85]))), (78, (.aload_n 0, (79, [0]))), (79, (.getfield 13, (82, []))), (82, (.iload 5, (84, [5]))), (84, (.iaload, (85, []))), (85, (.iastore, (86, []))), (86, (.aload_n 0, (87, [0]))), (87, (.getfield 16, (90, []))), (90, (.iload 5, (92, [5]))), (92, (.iload_n 3, (93, [3]))), (93, (.ifCond .eq 14, (96, [107]))), (96, (.iload 4, (98, [4]))), (98, (.bipush 9, (100, []))), (100, (.if_icmp .lt 7, (103, [107]))), (103, (.iload_n 2, (104, [2]))), (104, (.goto 10, (107, [114]))), (107, (.aload_n 0, (108, [0]))), (108, (.getfield 16, (111, []))), (111, (.iload 5, (113, [5]))), (113, (.iaload, (114, []))), (114, (.iastore, (115, []))), (115, (.iload 4, (117, [4]))), (117, (.bipush 9, (119, []))), (119, (.if_icmp .ge 13, (122, [132]))), (122, (.aload_n 0, (123, [0]))), (123, (.getfield 13, (126, []))), (126, (.iload 5, (128, [5]))), (128, (.iaload, (129, []))), (129, (.goto 10, (132, [139]))), (132, (.aload_n 0, (133, [0]))), (133, (.getfield 16, (136, []))), (136, (.iload 5, (138, [5]))), (138, (.iaload, (139, []))), (139, (.ireturn, (140, []))), (140, (.iinc 4 (-18), (143, [4]))), (143, (.iload 4, (145, [4]))), (145, (.iconst 2, (146, []))), (146, (.if_icmp .ge 33, (149, [179]))), (149, (.aload_n 0, (150, [0]))), (150, (.getfield 19, (153, []))), (153, (.iload 4, (155, [4]))), (155, (.iload_n 3, (156, [3]))), (156, (.ifCond .eq 7, (159, [163]))), (159, (.iload_n 2, (160, [2]))), (160, (.goto 10, (163, [170]))), (163, (.aload_n 0, (164, [0]))), (164, (.getfield 19, (167, []))), (167, (.iload 4, (169, [4]))), (169, (.iaload, (170, []))), (170, (.iastore, (171, []))), (171, (.aload_n 0, (172, [0]))), (172, (.getfield 19, (175, []))), (175, (.iload 4, (177, [4]))), (177, (.iaload, (178, []))), (178, (.ireturn, (179, []))), (179, (.iinc 4 (-2), (182, [4]))), (182, (.iload 4, (184, [4]))), (184, (.bipush 36, (186, []))), (186, (.if_icmp .ge 146, (189, [332]))), (189, (.iload 4, (191, [4]))), (191, (.bipush 12, (193, []))), (193, (.irem, (194, []))), (194, (.istore 5, (196, [5]))), (196, (.aload_n 0, (197, [0]))), (197, (.getfield 22, (200, []))), (200, (.iload 5, (202, [5]))), (202, (.iload_n 3, (203, [3]))), (203, (.ifCond .eq 14, (206, [217]))), (206, (.iload 4, (208, [4]))), (208, (.bipush 12, (210, []))), (210, (.if_icmp .ge 7, (213, [217]))), (213, (.iload_n 2, (214, [2]))), (214, (.goto 10, (217, [224]))), (217, (.aload_n 0, (218, [0]))), (218, (.getfield 22, (221, []))), (221, (.iload 5, (223, [5]))), (223, (.iaload, (224, []))), (224, (.iastore, (225, []))), (225, (.aload_n 0, (226, [0]))), (226, (.getfield 25, (229, []))), (229, (.iload 5, (231, [5]))), (231, (.iload_n 3, (232, [3]))), (232, (.ifCond .eq 21, (235, [253]))), (235, (.iload 4, (237, [4]))), (237, (.bipush 12, (239, []))), (239, (.if_icmp .lt 14, (242, [253]))), (242, (.iload 4, (244, [4]))), (244, (.bipush 24, (246, []))), (246, (.if_icmp .ge 7, (249, [253]))), (249, (.iload_n 2, (250, [2]))), (250, (.goto 10, (253, [260]))), (253, (.aload_n 0, (254, [0]))), (254, (.getfield 25, (257, []))), (257, (.iload 5, (259, [5]))), (259, (.iaload, (260, []))), (260, (.iastore, (261, []))), (261, (.aload_n 0, (262, [0]))), (262, (.getfield 28, (265, []))), (265, (.iload 5, (267, [5]))), (267, (.iload_n 3, (268, [3]))), (268, (.ifCond .eq 14, (271, [282]))), (271, (.iload 4, (273, [4]))), (273, (.bipush 24, (275, []))), (275, (.if_icmp .lt 7, (278, [282]))), (278, (.iload_n 2, (279, [2]))), (279, (.goto 10, (282, [289]))), (282, (.aload_n 0, (283, [0]))), (283, (.getfield 28, (286, []))), (286, (.iload 5, (288, [5]))), (288, (.iaload, (289, []))), (289, (.iastore, (290, []))), (290, (.iload 4, (292, [4]))), (292, (.bipush 12, (294, []))), (294, (.if_icmp .ge 13, (297, [307]))), (297, (.aload_n 0, (298, [0]))), (298, (.getfield 22, (301, []))), (301, (.iload 5, (303, [5]))), (303, (.iaload, (304, []))), (304, (.goto 27, (307, [331]))), (307, (.iload 4, (309, [4]))), (309, (.bipush 24, (311, []))), (311, (.if_icmp .ge 13, (314, [324]))), (314, (.aload_n 0, (315, [0]))), (315, (.getfield 25, (318, []))), (318, (.iload 5, (320, [5]))), (320, (.iaload, (321, []))), (321, (.goto 10, (324, [331]))), (324, (.aload_n 0, (325, [0]))), (325, (.getfield 28, (328, []))), (328, (.iload 5, (330, [5]))), (330, (.iaload, (331, []))), (331, (.ireturn, (332, []))), (332, (.iinc 4 (-36), (335, [4]))), (335, (.aload_n 0, (336, [0]))), (336, (.getfield 31, (339, []))), (339, (.iload 4, (341, [4]))), (341, (.iload_n 3, (342, [3]))), (342, (.ifCond .eq 7, (345, [349]))), (345, (.iload_n 2, (346, [2]))), (346, (.goto 10, (349, [356]))), (349, (.aload_n 0, (350, [0]))), (350, (.getfield 31, (353, []))), (353, (.iload 4, (355, [4]))), (355, (.iaload, (356, []))), (356, (.iastore, (357, []))), (357, (.aload_n 0, (358, [0]))), (358, (.getfield 31, (361, []))), (361, (.iload 4, (363, [4]))), (363, (.iaload, (364, []))), (364, (.ireturn, (365, [])))]
abbrev m_Mo_carried : zM := (yX7_carried, (cX7_carried, (6, (some .int, (0, 0)))))
set_option maxRecDepth 20000 in
theorem tk_Mo_carried : tb_Mo_carried.all (z_ent m_Mo_carried.2.1 m_Mo_carried.2.2.1) = true := by decide +kernel
theorem yv_Mo_carried : z_yV m_Mo_carried 3 7 := ⟨⟨⟨by decide +kernel, by decide +kernel, by decide +kernel⟩, z_mem 56 (by decide +kernel) (by decide +kernel), z_mem 1025 (by decide +kernel) (by decide +kernel)⟩, z_mem 1024 (by decide +kernel) (by decide +kernel), z_mem 46 (by decide +kernel) (by decide +kernel), TX7, 23, rfl⟩
def tb_Mo_image : List (Nat × zI) := [(0, (.iconst 0, (1, []))), (1, (.istore_n 1, (2, [1]))), (2, (.iload_n 1, (3, [1]))), (3, (.sipush 185, (6, []))), (6, (.if_icmp .ge 22, (9, [28]))), (9, (.aload_n 0, (10, [0]))), (10, (.getfield 40, (13, []))), (13, (.iload_n 1, (14, [1]))), (14, (.aload_n 0, (15, [0]))), (15, (.iload_n 1, (16, [1]))), (16, (.iconst 0, (17, []))), (17, (.iconst 0, (18, []))), (18, (.invokevirtual 209, (21, []))), (21, (.iastore, (22, []))), (22, (.iinc 1 1, (25, [1]))), (25, (.goto (-23), (28, [2]))), (28, (.aload_n 0, (29, [0]))), (29, (.aload_n 0, (30, [0]))), (30, (.getfield 59, (33, []))), (33, (.putfield 212, (36, []))), (36, (.aload_n 0, (37, [0]))), (37, (.aload_n 0, (38, [0]))), (38, (.getfield 85, (41, []))), (41, (.putfield 215, (44, []))), (44, (.aload_n 0, (45, [0]))), (45, (.iconst 1, (46, []))), (46, (.putfield 218, (49, []))), (49, (.iconst 1, (50, []))), (50, (.ireturn, (51, [])))]
abbrev m_Mo_image : zM := (yX7_image, (cX7_image, (2, (some .int, (1, 25)))))
set_option maxRecDepth 20000 in
theorem tk_Mo_image : tb_Mo_image.all (z_ent m_Mo_image.2.1 m_Mo_image.2.2.1) = true := by decide +kernel
theorem yv_Mo_image : z_yV m_Mo_image 0 7 := ⟨⟨⟨by decide +kernel, by decide +kernel, by decide +kernel⟩, z_mem 56 (by decide +kernel) (by decide +kernel), z_mem 1021 (by decide +kernel) (by decide +kernel)⟩, z_mem 1019 (by decide +kernel) (by decide +kernel), z_mem 1020 (by decide +kernel) (by decide +kernel), TX7, 23, rfl⟩
def tb_Mo_restore : List (Nat × zI) := [(0, (.aload_n 0, (1, [0]))), (1, (.getfield 218, (4, []))), (4, (.ifCond .ne 6, (7, [10]))), (7, (.bipush (-4), (9, []))), (9, (.ireturn, (10, []))), (10, (.iconst 0, (11, []))), (11, (.istore_n 1, (12, [1]))), (12, (.iload_n 1, (13, [1]))), (13, (.sipush 185, (16, []))), (16, (.if_icmp .ge 22, (19, [38]))), (19, (.aload_n 0, (20, [0]))), (20, (.iload_n 1, (21, [1]))), (21, (.aload_n 0, (22, [0]))), (22, (.getfield 40, (25, []))), (25, (.iload_n 1, (26, [1]))), (26, (.iaload, (27, []))), (27, (.iconst 1, (28, []))), (28, (.invokevirtual 209, (31, []))), (31, (.pop, (32, []))), (32, (.iinc 1 1, (35, [1]))), (35, (.goto (-23), (38, [12]))), (38, (.aload_n 0, (39, [0]))), (39, (.aload_n 0, (40, [0]))), (40, (.getfield 212, (43, []))), (43, (.putfield 59, (46, []))), (46, (.aload_n 0, (47, [0]))), (47, (.aload_n 0, (48, [0]))), (48, (.getfield 215, (51, []))), (51, (.putfield 85, (54, []))), (54, (.iconst 1, (55, []))), (55, (.ireturn, (56, [])))]
abbrev m_Mo_restore : zM := (yX7_restore, (cX7_restore, (2, (some .int, (1, 25)))))
set_option maxRecDepth 20000 in
theorem tk_Mo_restore : tb_Mo_restore.all (z_ent m_Mo_restore.2.1 m_Mo_restore.2.2.1) = true := by decide +kernel
theorem yv_Mo_restore : z_yV m_Mo_restore 0 7 := ⟨⟨⟨by decide +kernel, by decide +kernel, by decide +kernel⟩, z_mem 56 (by decide +kernel) (by decide +kernel), z_mem 1029 (by decide +kernel) (by decide +kernel)⟩, z_mem 1027 (by decide +kernel) (by decide +kernel), z_mem 1028 (by decide +kernel) (by decide +kernel), TX7, 23, rfl⟩
def tb_Mo_isSheet : List (Nat × zI) := [(0, (.iload_n 0, (1, [0]))), (1, (.i2l, (2, []))), (2, (.lconst 0, (3, [0]))), (3, (.ldc2_w 69, (6, []))), (6, (.invokestatic 55, (9, []))), (9, (.ifCond .eq 19, (12, [28]))), (12, (.iload_n 1, (13, [1]))), (13, (.i2l, (14, []))), (14, (.lconst 0, (15, [0]))), (15, (.ldc2_w 83, (18, []))), (18, (.invokestatic 55, (21, []))), (21, (.ifCond .eq 7, (24, [28]))), (24, (.iconst 1, (25, []))), (25, (.goto 4, (28, [29]))), (28, (.iconst 0, (29, []))), (29, (.ireturn, (30, [])))]
abbrev m_Mo_isSheet : zM := (yX7_isSheet, (cX7_isSheet, (2, (some .boolean, (1, 25)))))
set_option maxRecDepth 20000 in
theorem tk_Mo_isSheet : tb_Mo_isSheet.all (z_ent m_Mo_isSheet.2.1 m_Mo_isSheet.2.2.1) = true := by decide +kernel
theorem ys_Mo_isSheet : z_yS m_Mo_isSheet 2 := ⟨⟨⟨by decide +kernel, by decide +kernel, by decide +kernel⟩, z_mem 56 (by decide +kernel) (by decide +kernel), z_mem 1036 (by decide +kernel) (by decide +kernel)⟩, z_mem 1035 (by decide +kernel) (by decide +kernel)⟩
def tb_Mo_asLane : List (Nat × zI) := [(0, (.iload_n 0, (1, [0]))), (1, (.ifCond .ne 13, (4, [14]))), (4, (.lload_n 1, (5, [1]))), (5, (.bipush 48, (7, []))), (7, (.lshl, (8, []))), (8, (.bipush 48, (10, []))), (10, (.lshr, (11, []))), (11, (.goto 19, (14, [30]))), (14, (.iload_n 0, (15, [0]))), (15, (.iconst 1, (16, []))), (16, (.if_icmp .ne 13, (19, [29]))), (19, (.lload_n 1, (20, [1]))), (20, (.bipush 32, (22, []))), (22, (.lshl, (23, []))), (23, (.bipush 32, (25, []))), (25, (.lshr, (26, []))), (26, (.goto 4, (29, [30]))), (29, (.lload_n 1, (30, [1]))), (30, (.lreturn, (31, [])))]
abbrev m_Mo_asLane : zM := (yX7_asLane, (cX7_asLane, (3, (some .long, (0, 0)))))
set_option maxRecDepth 20000 in
theorem tk_Mo_asLane : tb_Mo_asLane.all (z_ent m_Mo_asLane.2.1 m_Mo_asLane.2.2.1) = true := by decide +kernel
theorem ys_Mo_asLane : z_yS m_Mo_asLane 2 := ⟨⟨⟨by decide +kernel, by decide +kernel, by decide +kernel⟩, z_mem 56 (by decide +kernel) (by decide +kernel), z_mem 1051 (by decide +kernel) (by decide +kernel)⟩, z_mem 1050 (by decide +kernel) (by decide +kernel)⟩
def tb_Mo_sheet : List (Nat × zI) := [(0, (.iload_n 1, (1, [1]))), (1, (.iload_n 2, (2, [2]))), (2, (.invokestatic 222, (5, []))), (5, (.ifCond .eq 9, (8, [14]))), (8, (.iload_n 3, (9, [3]))), (9, (.bipush 24, (11, []))), (11, (.if_icmp .le 5, (14, [16]))), (14, (.iconst (-1), (15, []))), (15, (.ireturn, (16, []))), (16, (.iload_n 3, (17, [3]))), (17, (.ifCond .ge 6, (20, [23]))), (20, (.bipush (-14), (22, []))), (22, (.ireturn, (23, []))), (23, (.aload_n 0, (24, [0]))), (24, (.getfield 43, (27, []))), (27, (.iload_n 1, (28, [1]))), (28, (.iload_n 2, (29, [2]))), (29, (.iastore, (30, []))), (30, (.aload_n 0, (31, [0]))), (31, (.getfield 46, (34, []))), (34, (.iload_n 1, (35, [1]))), (35, (.iload_n 3, (36, [3]))), (36, (.iastore, (37, []))), (37, (.iconst 0, (38, []))), (38, (.istore 4, (40, [4]))), (40, (.iload 4, (42, [4]))), (42, (.bipush 24, (44, []))), (44, (.if_icmp .ge 22, (47, [66]))), (47, (.aload_n 0, (48, [0]))), (48, (.getfield 49, (51, []))), (51, (.bipush 24, (53, []))), (53, (.iload_n 1, (54, [1]))), (54, (.imul, (55, []))), (55, (.iload 4, (57, [4]))), (57, (.iadd, (58, []))), (58, (.lconst 0, (59, [0]))), (59, (.lastore, (60, []))), (60, (.iinc 4 1, (63, [4]))), (63, (.goto (-23), (66, [40]))), (66, (.iload_n 3, (67, [3]))), (67, (.ireturn, (68, [])))]
abbrev m_Mo_sheet : zM := (yX7_sheet, (cX7_sheet, (5, (some .int, (2, 46)))))
set_option maxRecDepth 20000 in
theorem tk_Mo_sheet : tb_Mo_sheet.all (z_ent m_Mo_sheet.2.1 m_Mo_sheet.2.2.1) = true := by decide +kernel
theorem yv_Mo_sheet : z_yV m_Mo_sheet 3 7 := ⟨⟨⟨by decide +kernel, by decide +kernel, by decide +kernel⟩, z_mem 56 (by decide +kernel) (by decide +kernel), z_mem 1033 (by decide +kernel) (by decide +kernel)⟩, z_mem 1031 (by decide +kernel) (by decide +kernel), z_mem 1032 (by decide +kernel) (by decide +kernel), TX7, 23, rfl⟩
def tb_Mo_drop : List (Nat × zI) := [(0, (.iload_n 1, (1, [1]))), (1, (.i2l, (2, []))), (2, (.lconst 0, (3, [0]))), (3, (.ldc2_w 69, (6, []))), (6, (.invokestatic 55, (9, []))), (9, (.ifCond .ne 5, (12, [14]))), (12, (.iconst (-1), (13, []))), (13, (.ireturn, (14, []))), (14, (.aload_n 0, (15, [0]))), (15, (.getfield 43, (18, []))), (18, (.iload_n 1, (19, [1]))), (19, (.iaload, (20, []))), (20, (.ifCond .ge 6, (23, [26]))), (23, (.bipush (-11), (25, []))), (25, (.ireturn, (26, []))), (26, (.aload_n 0, (27, [0]))), (27, (.getfield 43, (30, []))), (30, (.iload_n 1, (31, [1]))), (31, (.iconst (-1), (32, []))), (32, (.iastore, (33, []))), (33, (.aload_n 0, (34, [0]))), (34, (.getfield 46, (37, []))), (37, (.iload_n 1, (38, [1]))), (38, (.iaload, (39, []))), (39, (.ireturn, (40, [])))]
abbrev m_Mo_drop : zM := (yX7_drop, (cX7_drop, (2, (some .int, (1, 25)))))
set_option maxRecDepth 20000 in
theorem tk_Mo_drop : tb_Mo_drop.all (z_ent m_Mo_drop.2.1 m_Mo_drop.2.2.1) = true := by decide +kernel
theorem yv_Mo_drop : z_yV m_Mo_drop 1 7 := ⟨⟨⟨by decide +kernel, by decide +kernel, by decide +kernel⟩, z_mem 56 (by decide +kernel) (by decide +kernel), z_mem 1040 (by decide +kernel) (by decide +kernel)⟩, z_mem 1038 (by decide +kernel) (by decide +kernel), z_mem 1039 (by decide +kernel) (by decide +kernel), TX7, 23, rfl⟩
def tb_Mo_lacksRow : List (Nat × zI) := [(0, (.aload_n 0, (1, [0]))), (1, (.getfield 43, (4, []))), (4, (.iload_n 1, (5, [1]))), (5, (.iaload, (6, []))), (6, (.iload_n 2, (7, [2]))), (7, (.if_icmp .eq 20, (10, [27]))), (10, (.aload_n 0, (11, [0]))), (11, (.getfield 43, (14, []))), (14, (.iload_n 1, (15, [1]))), (15, (.iaload, (16, []))), (16, (.ifCond .ge 8, (19, [24]))), (19, (.bipush (-11), (21, []))), (21, (.goto 5, (24, [26]))), (24, (.bipush (-12), (26, []))), (26, (.ireturn, (27, []))), (27, (.iload_n 3, (28, [3]))), (28, (.i2l, (29, []))), (29, (.lconst 0, (30, [0]))), (30, (.aload_n 0, (31, [0]))), (31, (.getfield 46, (34, []))), (34, (.iload_n 1, (35, [1]))), (35, (.iaload, (36, []))), (36, (.iload 4, (38, [4]))), (38, (.isub, (39, []))), (39, (.i2l, (40, []))), (40, (.invokestatic 55, (43, []))), (43, (.ifCond .eq 7, (46, [50]))), (46, (.iconst 0, (47, []))), (47, (.goto 5, (50, [52]))), (50, (.bipush (-13), (52, []))), (52, (.ireturn, (53, [])))]
abbrev m_Mo_lacksRow : zM := (yX7_lacksRow, (cX7_lacksRow, (5, (some .int, (1, 25)))))
set_option maxRecDepth 20000 in
theorem tk_Mo_lacksRow : tb_Mo_lacksRow.all (z_ent m_Mo_lacksRow.2.1 m_Mo_lacksRow.2.2.1) = true := by decide +kernel
theorem yv_Mo_lacksRow : z_yV m_Mo_lacksRow 4 7 := ⟨⟨⟨by decide +kernel, by decide +kernel, by decide +kernel⟩, z_mem 56 (by decide +kernel) (by decide +kernel), z_mem 1048 (by decide +kernel) (by decide +kernel)⟩, z_mem 1047 (by decide +kernel) (by decide +kernel), z_mem 47 (by decide +kernel) (by decide +kernel), TX7, 23, rfl⟩
def tb_Mo_item : List (Nat × zI) := [(0, (.iload_n 1, (1, [1]))), (1, (.iload_n 2, (2, [2]))), (2, (.invokestatic 222, (5, []))), (5, (.ifCond .ne 5, (8, [10]))), (8, (.iconst (-1), (9, []))), (9, (.ireturn, (10, []))), (10, (.aload_n 0, (11, [0]))), (11, (.iload_n 1, (12, [1]))), (12, (.iload_n 2, (13, [2]))), (13, (.iload_n 3, (14, [3]))), (14, (.iconst 1, (15, []))), (15, (.invokevirtual 225, (18, []))), (18, (.istore 6, (20, [6]))), (20, (.iload 6, (22, [6]))), (22, (.ifCond .ge 6, (25, [28]))), (25, (.iload 6, (27, [6]))), (27, (.ireturn, (28, []))), (28, (.aload_n 0, (29, [0]))), (29, (.getfield 49, (32, []))), (32, (.bipush 24, (34, []))), (34, (.iload_n 1, (35, [1]))), (35, (.imul, (36, []))), (36, (.iload_n 3, (37, [3]))), (37, (.iadd, (38, []))), (38, (.iload_n 2, (39, [2]))), (39, (.lload 4, (41, [4]))), (41, (.invokestatic 229, (44, []))), (44, (.lastore, (45, []))), (45, (.iconst 1, (46, []))), (46, (.ireturn, (47, [])))]
abbrev m_Mo_item : zM := (yX7_item, (cX7_item, (7, (some .int, (2, 49)))))
set_option maxRecDepth 20000 in
theorem tk_Mo_item : tb_Mo_item.all (z_ent m_Mo_item.2.1 m_Mo_item.2.2.1) = true := by decide +kernel
theorem yv_Mo_item : z_yV m_Mo_item 4 7 := ⟨⟨⟨by decide +kernel, by decide +kernel, by decide +kernel⟩, z_mem 56 (by decide +kernel) (by decide +kernel), z_mem 1044 (by decide +kernel) (by decide +kernel)⟩, z_mem 1042 (by decide +kernel) (by decide +kernel), z_mem 1043 (by decide +kernel) (by decide +kernel), TX7, 23, rfl⟩
def tb_Mo_mixed : List (Nat × zI) := [(0, (.aload_n 0, (1, [0]))), (1, (.iload_n 1, (2, [1]))), (2, (.invokevirtual 75, (5, []))), (5, (.ifCond .eq 35, (8, [40]))), (8, (.iload_n 2, (9, [2]))), (9, (.iload_n 3, (10, [3]))), (10, (.invokestatic 222, (13, []))), (13, (.ifCond .eq 27, (16, [40]))), (16, (.iload 5, (18, [5]))), (18, (.i2l, (19, []))), (19, (.lconst 1, (20, [1]))), (20, (.ldc2_w 233, (23, []))), (23, (.invokestatic 55, (26, []))), (26, (.ifCond .eq 14, (29, [40]))), (29, (.iload 6, (31, [6]))), (31, (.i2l, (32, []))), (32, (.lconst 0, (33, [0]))), (33, (.lconst 1, (34, [1]))), (34, (.invokestatic 55, (37, []))), (37, (.ifCond .ne 7, (40, [44]))), (40, (.ldc2_w 169, (43, []))), (43, (.lreturn, (44, []))), (44, (.aload_n 0, (45, [0]))), (45, (.iload_n 2, (46, [2]))), (46, (.iload_n 3, (47, [3]))), (47, (.iload 4, (49, [4]))), (49, (.iload 5, (51, [5]))), (51, (.invokevirtual 225, (54, []))), (54, (.istore 7, (56, [7]))), (56, (.iload 7, (58, [7]))), (58, (.ifCond .ge 7, (61, [65]))), (61, (.iload 7, (63, [7]))), (63, (.i2l, (64, []))), (64, (.lreturn, (65, []))), (65, (.bipush 24, (67, []))), (67, (.iload_n 2, (68, [2]))), (68, (.imul, (69, []))), (69, (.iload 4, (71, [4]))), (71, (.iadd, (72, []))), (72, (.istore 8, (74, [8]))), (74, (.lconst 0, (75, [0]))), (75, (.lstore 9, (77, [9]))), (77, (.iconst 0, (78, []))), (78, (.istore 11, (80, [11]))), (80, (.iload 11, (82, [11]))), (82, (.iload 5, (84, [5]))), (84, (.if_icmp .ge 48, (87, [132]))), (87, (.aload_n 0, (88, [0]))), (88, (.getfield 49, (91, []))), (91, (.iload 8, (93, [8]))), (93, (.iload 11, (95, [11]))), (95, (.iadd, (96, []))), (96, (.laload, (97, []))), (97, (.lconst 0, (98, [0]))), (98, (.ldc2_w 67, (101, []))), (101, (.invokestatic 55, (104, []))), (104, (.ifCond .ne 7, (107, [111]))), (107, (.ldc2_w 171, (110, []))), (110, (.lreturn, (111, []))), (111, (.lload 9, (113, [9]))), (113, (.aload_n 0, (114, [0]))), (114, (.getfield 49, (117, []))), (117, (.iload 8, (119, [8]))), (119, (.iload 11, (121, [11]))), (121, (.iadd, (122, []))), (122, (.laload, (123, []))), (123, (.ladd, (124, []))), (124, (.lstore 9, (126, [9]))), (126, (.iinc 11 1, (129, [11]))), (129, (.goto (-49), (132, [80]))), (132, (.lload 9, (134, [9]))), (134, (.lconst 0, (135, [0]))), (135, (.lcmp, (136, []))), (136, (.ifCond .eq 10, (139, [146]))), (139, (.aload_n 0, (140, [0]))), (140, (.invokevirtual 79, (143, []))), (143, (.ifCond .ne 7, (146, [150]))), (146, (.ldc2_w 171, (149, []))), (149, (.lreturn, (150, []))), (150, (.lconst 0, (151, [0]))), (151, (.lstore 11, (153, [11]))), (153, (.iconst 0, (154, []))), (154, (.istore 13, (156, [13]))), (156, (.iload 13, (158, [13]))), (158, (.iload 5, (160, [5]))), (160, (.if_icmp .ge 52, (163, [212]))), (163, (.lload 11, (165, [11]))), (165, (.aload_n 0, (166, [0]))), (166, (.getfield 49, (169, []))), (169, (.iload 8, (171, [8]))), (171, (.iload 13, (173, [13]))), (173, (.iadd, (174, []))), (174, (.laload, (175, []))), (175, (.lconst 0, (176, [0]))), (176, (.lcmp, (177, []))), (177, (.ifCond .ne 7, (180, [184]))), (180, (.lconst 0, (181, [0]))), (181, (.goto 22, (184, [203]))), (184, (.aload_n 0, (185, [0]))), (185, (.getfield 49, (188, []))), (188, (.iload 8, (190, [8]))), (190, (.iload 13, (192, [13]))), (192, (.iadd, (193, []))), (193, (.laload, (194, []))), (194, (.aload_n 0, (195, [0]))), (195, (.iload_n 1, (196, [1]))), (196, (.iload 13, (198, [13]))), (198, (.invokevirtual 176, (201, []))), (201, (.i2l, (202, []))), (202, (.lmul, (203, []))), (203, (.ladd, (204, []))), (204, (.lstore 11, (206, [11]))), (206, (.iinc 13 1, (209, [13]))), (209, (.goto (-53), (212, [156]))), (212, (.lload 11, (214, [11]))), (214, (.ldc2_w 163, (217, []))), (217, (.lload 9, (219, [9]))), (219, (.lmul, (220, []))), (220, (.aload_n 0, (221, [0]))), (221, (.invokevirtual 79, (224, []))), (224, (.i2l, (225, []))), (225, (.lmul, (226, []))), (226, (.iload 6, (228, [6]))), (228, (.invokestatic 165, (231, []))), (231, (.lreturn, (232, [])))]
abbrev m_Mo_mixed : zM := (yX7_mixed, (cX7_mixed, (14, (some .long, (7, 165)))))
set_option maxRecDepth 20000 in
theorem tk_Mo_mixed : tb_Mo_mixed.all (z_ent m_Mo_mixed.2.1 m_Mo_mixed.2.2.1) = true := by decide +kernel
theorem yv_Mo_mixed : z_yV m_Mo_mixed 6 7 := ⟨⟨⟨by decide +kernel, by decide +kernel, by decide +kernel⟩, z_mem 56 (by decide +kernel) (by decide +kernel), z_mem 1055 (by decide +kernel) (by decide +kernel)⟩, z_mem 1053 (by decide +kernel) (by decide +kernel), z_mem 1054 (by decide +kernel) (by decide +kernel), TX7, 23, rfl⟩
def tb_Mo_film : List (Nat × zI) := [(0, (.iload_n 1, (1, [1]))), (1, (.iload_n 2, (2, [2]))), (2, (.invokestatic 222, (5, []))), (5, (.ifCond .ne 5, (8, [10]))), (8, (.iconst (-1), (9, []))), (9, (.ireturn, (10, []))), (10, (.aload_n 0, (11, [0]))), (11, (.iload_n 1, (12, [1]))), (12, (.iload_n 2, (13, [2]))), (13, (.iload_n 3, (14, [3]))), (14, (.aload_n 0, (15, [0]))), (15, (.getfield 59, (18, []))), (18, (.invokevirtual 225, (21, []))), (21, (.istore 4, (23, [4]))), (23, (.iload 4, (25, [4]))), (25, (.ifCond .ge 6, (28, [31]))), (28, (.iload 4, (30, [4]))), (30, (.ireturn, (31, []))), (31, (.iconst 0, (32, []))), (32, (.istore 5, (34, [5]))), (34, (.iload 5, (36, [5]))), (36, (.aload_n 0, (37, [0]))), (37, (.getfield 59, (40, []))), (40, (.if_icmp .ge 31, (43, [71]))), (43, (.aload_n 0, (44, [0]))), (44, (.getfield 49, (47, []))), (47, (.bipush 24, (49, []))), (49, (.iload_n 1, (50, [1]))), (50, (.imul, (51, []))), (51, (.iload_n 3, (52, [3]))), (52, (.iadd, (53, []))), (53, (.iload 5, (55, [5]))), (55, (.iadd, (56, []))), (56, (.aload_n 0, (57, [0]))), (57, (.getfield 16, (60, []))), (60, (.iload 5, (62, [5]))), (62, (.iaload, (63, []))), (63, (.i2l, (64, []))), (64, (.lastore, (65, []))), (65, (.iinc 5 1, (68, [5]))), (68, (.goto (-34), (71, [34]))), (71, (.aload_n 0, (72, [0]))), (72, (.getfield 59, (75, []))), (75, (.ireturn, (76, [])))]
abbrev m_Mo_film : zM := (yX7_film, (cX7_film, (6, (some .int, (2, 49)))))
set_option maxRecDepth 20000 in
theorem tk_Mo_film : tb_Mo_film.all (z_ent m_Mo_film.2.1 m_Mo_film.2.2.1) = true := by decide +kernel
theorem yv_Mo_film : z_yV m_Mo_film 3 7 := ⟨⟨⟨by decide +kernel, by decide +kernel, by decide +kernel⟩, z_mem 56 (by decide +kernel) (by decide +kernel), z_mem 1060 (by decide +kernel) (by decide +kernel)⟩, z_mem 1058 (by decide +kernel) (by decide +kernel), z_mem 1059 (by decide +kernel) (by decide +kernel), TX7, 23, rfl⟩
def ft_Mo : List (Nat × (Nat × (Nat × Nat))) := [(7, (7, (0, 0))), (13, (7, (1, 0))), (16, (7, (2, 0))), (19, (7, (3, 0))), (22, (7, (5, 0))), (25, (7, (6, 0))), (28, (7, (7, 0))), (31, (7, (8, 0))), (34, (7, (10, 0))), (37, (7, (14, 0))), (40, (7, (17, 0))), (43, (7, (20, 0))), (46, (7, (21, 0))), (49, (7, (22, 0))), (59, (7, (4, 1))), (85, (7, (9, 1))), (96, (7, (11, 1))), (99, (7, (12, 1))), (123, (7, (13, 1))), (187, (7, (15, 1))), (212, (7, (18, 1))), (215, (7, (19, 1))), (218, (7, (16, 2)))]
theorem f_Mo_7 : z_f1 RX7 7 (7, (0, 0)) := ⟨RX7, TX7, 23, rfl, by decide, izX7, rfl, Or.inl (z_mem 720 (by decide +kernel) (by decide +kernel)), fun h => absurd rfl h⟩
theorem f_Mo_13 : z_f1 RX7 13 (7, (1, 0)) := ⟨RX7, TX7, 23, rfl, by decide, izX7, rfl, Or.inl (z_mem 721 (by decide +kernel) (by decide +kernel)), fun h => absurd rfl h⟩
theorem f_Mo_16 : z_f1 RX7 16 (7, (2, 0)) := ⟨RX7, TX7, 23, rfl, by decide, izX7, rfl, Or.inl (z_mem 722 (by decide +kernel) (by decide +kernel)), fun h => absurd rfl h⟩
theorem f_Mo_19 : z_f1 RX7 19 (7, (3, 0)) := ⟨RX7, TX7, 23, rfl, by decide, izX7, rfl, Or.inl (z_mem 723 (by decide +kernel) (by decide +kernel)), fun h => absurd rfl h⟩
theorem f_Mo_22 : z_f1 RX7 22 (7, (5, 0)) := ⟨RX7, TX7, 23, rfl, by decide, izX7, rfl, Or.inl (z_mem 725 (by decide +kernel) (by decide +kernel)), fun h => absurd rfl h⟩
theorem f_Mo_25 : z_f1 RX7 25 (7, (6, 0)) := ⟨RX7, TX7, 23, rfl, by decide, izX7, rfl, Or.inl (z_mem 726 (by decide +kernel) (by decide +kernel)), fun h => absurd rfl h⟩
theorem f_Mo_28 : z_f1 RX7 28 (7, (7, 0)) := ⟨RX7, TX7, 23, rfl, by decide, izX7, rfl, Or.inl (z_mem 727 (by decide +kernel) (by decide +kernel)), fun h => absurd rfl h⟩
theorem f_Mo_31 : z_f1 RX7 31 (7, (8, 0)) := ⟨RX7, TX7, 23, rfl, by decide, izX7, rfl, Or.inl (z_mem 728 (by decide +kernel) (by decide +kernel)), fun h => absurd rfl h⟩
theorem f_Mo_34 : z_f1 RX7 34 (7, (10, 0)) := ⟨RX7, TX7, 23, rfl, by decide, izX7, rfl, Or.inl (z_mem 730 (by decide +kernel) (by decide +kernel)), fun h => absurd rfl h⟩
theorem f_Mo_37 : z_f1 RX7 37 (7, (14, 0)) := ⟨RX7, TX7, 23, rfl, by decide, izX7, rfl, Or.inl (z_mem 734 (by decide +kernel) (by decide +kernel)), fun h => absurd rfl h⟩
theorem f_Mo_40 : z_f1 RX7 40 (7, (17, 0)) := ⟨RX7, TX7, 23, rfl, by decide, izX7, rfl, Or.inl (z_mem 737 (by decide +kernel) (by decide +kernel)), fun h => absurd rfl h⟩
theorem f_Mo_43 : z_f1 RX7 43 (7, (20, 0)) := ⟨RX7, TX7, 23, rfl, by decide, izX7, rfl, Or.inl (z_mem 740 (by decide +kernel) (by decide +kernel)), fun h => absurd rfl h⟩
theorem f_Mo_46 : z_f1 RX7 46 (7, (21, 0)) := ⟨RX7, TX7, 23, rfl, by decide, izX7, rfl, Or.inl (z_mem 741 (by decide +kernel) (by decide +kernel)), fun h => absurd rfl h⟩
theorem f_Mo_49 : z_f1 RX7 49 (7, (22, 0)) := ⟨RX7, TX7, 23, rfl, by decide, izX7, rfl, Or.inl (z_mem 742 (by decide +kernel) (by decide +kernel)), fun h => absurd rfl h⟩
theorem f_Mo_59 : z_f1 RX7 59 (7, (4, 1)) := ⟨RX7, TX7, 23, rfl, by decide, izX7, rfl, Or.inl (z_mem 724 (by decide +kernel) (by decide +kernel)), fun _ => ⟨z_mem 724 (by decide +kernel) (by decide +kernel), rfl, ⟨tyX7, tyX7_ok⟩, nmX7, Or.inl ⟨rfl, by decide +kernel⟩⟩⟩
theorem f_Mo_85 : z_f1 RX7 85 (7, (9, 1)) := ⟨RX7, TX7, 23, rfl, by decide, izX7, rfl, Or.inl (z_mem 729 (by decide +kernel) (by decide +kernel)), fun _ => ⟨z_mem 729 (by decide +kernel) (by decide +kernel), rfl, ⟨tyX7, tyX7_ok⟩, nmX7, Or.inl ⟨rfl, by decide +kernel⟩⟩⟩
theorem f_Mo_96 : z_f1 RX7 96 (7, (11, 1)) := ⟨RX7, TX7, 23, rfl, by decide, izX7, rfl, Or.inl (z_mem 731 (by decide +kernel) (by decide +kernel)), fun _ => ⟨z_mem 731 (by decide +kernel) (by decide +kernel), rfl, ⟨tyX7, tyX7_ok⟩, nmX7, Or.inl ⟨rfl, by decide +kernel⟩⟩⟩
theorem f_Mo_99 : z_f1 RX7 99 (7, (12, 1)) := ⟨RX7, TX7, 23, rfl, by decide, izX7, rfl, Or.inl (z_mem 732 (by decide +kernel) (by decide +kernel)), fun _ => ⟨z_mem 732 (by decide +kernel) (by decide +kernel), rfl, ⟨tyX7, tyX7_ok⟩, nmX7, Or.inl ⟨rfl, by decide +kernel⟩⟩⟩
theorem f_Mo_123 : z_f1 RX7 123 (7, (13, 1)) := ⟨RX7, TX7, 23, rfl, by decide, izX7, rfl, Or.inl (z_mem 733 (by decide +kernel) (by decide +kernel)), fun _ => ⟨z_mem 733 (by decide +kernel) (by decide +kernel), rfl, ⟨tyX7, tyX7_ok⟩, nmX7, Or.inl ⟨rfl, by decide +kernel⟩⟩⟩
theorem f_Mo_187 : z_f1 RX7 187 (7, (15, 1)) := ⟨RX7, TX7, 23, rfl, by decide, izX7, rfl, Or.inl (z_mem 735 (by decide +kernel) (by decide +kernel)), fun _ => ⟨z_mem 735 (by decide +kernel) (by decide +kernel), rfl, ⟨tyX7, tyX7_ok⟩, nmX7, Or.inl ⟨rfl, by decide +kernel⟩⟩⟩
theorem f_Mo_212 : z_f1 RX7 212 (7, (18, 1)) := ⟨RX7, TX7, 23, rfl, by decide, izX7, rfl, Or.inl (z_mem 738 (by decide +kernel) (by decide +kernel)), fun _ => ⟨z_mem 738 (by decide +kernel) (by decide +kernel), rfl, ⟨tyX7, tyX7_ok⟩, nmX7, Or.inl ⟨rfl, by decide +kernel⟩⟩⟩
theorem f_Mo_215 : z_f1 RX7 215 (7, (19, 1)) := ⟨RX7, TX7, 23, rfl, by decide, izX7, rfl, Or.inl (z_mem 739 (by decide +kernel) (by decide +kernel)), fun _ => ⟨z_mem 739 (by decide +kernel) (by decide +kernel), rfl, ⟨tyX7, tyX7_ok⟩, nmX7, Or.inl ⟨rfl, by decide +kernel⟩⟩⟩
theorem f_Mo_218 : z_f1 RX7 218 (7, (16, 2)) := ⟨RX7, TX7, 23, rfl, by decide, izX7, rfl, Or.inl (z_mem 736 (by decide +kernel) (by decide +kernel)), fun _ => ⟨z_mem 736 (by decide +kernel) (by decide +kernel), rfl, ⟨tyX7, tyX7_ok⟩, nmX7, Or.inr ⟨rfl, by decide +kernel⟩⟩⟩
theorem fok_Mo : z_fok RX7 ft_Mo := List.forall_mem_cons.mpr ⟨f_Mo_7, List.forall_mem_cons.mpr ⟨f_Mo_13, List.forall_mem_cons.mpr ⟨f_Mo_16, List.forall_mem_cons.mpr ⟨f_Mo_19, List.forall_mem_cons.mpr ⟨f_Mo_22, List.forall_mem_cons.mpr ⟨f_Mo_25, List.forall_mem_cons.mpr ⟨f_Mo_28, List.forall_mem_cons.mpr ⟨f_Mo_31, List.forall_mem_cons.mpr ⟨f_Mo_34, List.forall_mem_cons.mpr ⟨f_Mo_37, List.forall_mem_cons.mpr ⟨f_Mo_40, List.forall_mem_cons.mpr ⟨f_Mo_43, List.forall_mem_cons.mpr ⟨f_Mo_46, List.forall_mem_cons.mpr ⟨f_Mo_49, List.forall_mem_cons.mpr ⟨f_Mo_59, List.forall_mem_cons.mpr ⟨f_Mo_85, List.forall_mem_cons.mpr ⟨f_Mo_96, List.forall_mem_cons.mpr ⟨f_Mo_99, List.forall_mem_cons.mpr ⟨f_Mo_123, List.forall_mem_cons.mpr ⟨f_Mo_187, List.forall_mem_cons.mpr ⟨f_Mo_212, List.forall_mem_cons.mpr ⟨f_Mo_215, List.forall_mem_cons.mpr ⟨f_Mo_218, fun _ h => absurd h List.not_mem_nil⟩⟩⟩⟩⟩⟩⟩⟩⟩⟩⟩⟩⟩⟩⟩⟩⟩⟩⟩⟩⟩⟩⟩
def ct_Mo : List (Nat × Int) × List (Nat × Int) := ([], [(53, 20), (67, 99), (69, 3), (83, 2), (88, 8), (90, 255), (92, 32), (94, 126), (105, 48), (107, 57), (163, 2520), (169, -1), (171, -2), (185, 40), (198, 2097151), (233, 21)])
theorem cok_Mo : z_cok RX7 ct_Mo := ⟨fun _ h => absurd h List.not_mem_nil, List.forall_mem_cons.mpr ⟨z_mem 797 (by decide +kernel) (by decide +kernel), List.forall_mem_cons.mpr ⟨z_mem 801 (by decide +kernel) (by decide +kernel), List.forall_mem_cons.mpr ⟨z_mem 806 (by decide +kernel) (by decide +kernel), List.forall_mem_cons.mpr ⟨z_mem 835 (by decide +kernel) (by decide +kernel), List.forall_mem_cons.mpr ⟨z_mem 844 (by decide +kernel) (by decide +kernel), List.forall_mem_cons.mpr ⟨z_mem 845 (by decide +kernel) (by decide +kernel), List.forall_mem_cons.mpr ⟨z_mem 846 (by decide +kernel) (by decide +kernel), List.forall_mem_cons.mpr ⟨z_mem 847 (by decide +kernel) (by decide +kernel), List.forall_mem_cons.mpr ⟨z_mem 868 (by decide +kernel) (by decide +kernel), List.forall_mem_cons.mpr ⟨z_mem 869 (by decide +kernel) (by decide +kernel), List.forall_mem_cons.mpr ⟨z_mem 924 (by decide +kernel) (by decide +kernel), List.forall_mem_cons.mpr ⟨z_mem 935 (by decide +kernel) (by decide +kernel), List.forall_mem_cons.mpr ⟨z_mem 936 (by decide +kernel) (by decide +kernel), List.forall_mem_cons.mpr ⟨z_mem 965 (by decide +kernel) (by decide +kernel), List.forall_mem_cons.mpr ⟨z_mem 989 (by decide +kernel) (by decide +kernel), List.forall_mem_cons.mpr ⟨z_mem 1056 (by decide +kernel) (by decide +kernel), fun _ h => absurd h List.not_mem_nil⟩⟩⟩⟩⟩⟩⟩⟩⟩⟩⟩⟩⟩⟩⟩⟩⟩
theorem lk_Mo_55 : Cond.methodLink RX7 55 yX7_in ∈ z_tbl := z_mem 798 (by decide +kernel) (by decide +kernel)
theorem lk_Mo_63 : Cond.methodLink RX7 63 yX7_isSum ∈ z_tbl := z_mem 794 (by decide +kernel) (by decide +kernel)
theorem lk_Mo_71 : Cond.methodLink RX7 71 yX7_add ∈ z_tbl := z_mem 807 (by decide +kernel) (by decide +kernel)
theorem lk_Mo_75 : Cond.methodLink RX7 75 yX7_isGuest ∈ z_tbl := z_mem 815 (by decide +kernel) (by decide +kernel)
theorem lk_Mo_79 : Cond.methodLink RX7 79 yX7_allWeights ∈ z_tbl := z_mem 823 (by decide +kernel) (by decide +kernel)
theorem lk_Mo_102 : Cond.methodLink RX7 102 yX7_nextByte ∈ z_tbl := z_mem 860 (by decide +kernel) (by decide +kernel)
theorem lk_Mo_109 : Cond.methodLink RX7 109 yX7_readNumber ∈ z_tbl := z_mem 864 (by decide +kernel) (by decide +kernel)
theorem lk_Mo_113 : Cond.methodLink RX7 113 yX7_readCourse ∈ z_tbl := z_mem 856 (by decide +kernel) (by decide +kernel)
theorem lk_Mo_117 : Cond.methodLink RX7 117 yX7_readSupper ∈ z_tbl := z_mem 852 (by decide +kernel) (by decide +kernel)
theorem lk_Mo_120 : Cond.methodLink RX7 120 yX7_readGuest ∈ z_tbl := z_mem 878 (by decide +kernel) (by decide +kernel)
theorem lk_Mo_126 : Cond.methodLink RX7 126 yX7_readGuests ∈ z_tbl := z_mem 874 (by decide +kernel) (by decide +kernel)
theorem lk_Mo_129 : Cond.methodLink RX7 129 yX7_has ∈ z_tbl := z_mem 898 (by decide +kernel) (by decide +kernel)
theorem lk_Mo_133 : Cond.methodLink RX7 133 yX7_off ∈ z_tbl := z_mem 894 (by decide +kernel) (by decide +kernel)
theorem lk_Mo_136 : Cond.methodLink RX7 136 yX7_oneOf ∈ z_tbl := z_mem 909 (by decide +kernel) (by decide +kernel)
theorem lk_Mo_140 : Cond.methodLink RX7 140 yX7_firstOff ∈ z_tbl := z_mem 890 (by decide +kernel) (by decide +kernel)
theorem lk_Mo_143 : Cond.methodLink RX7 143 yX7_middle ∈ z_tbl := z_mem 901 (by decide +kernel) (by decide +kernel)
theorem lk_Mo_146 : Cond.methodLink RX7 146 yX7_farthest ∈ z_tbl := z_mem 905 (by decide +kernel) (by decide +kernel)
theorem lk_Mo_150 : Cond.methodLink RX7 150 yX7_payers ∈ z_tbl := z_mem 886 (by decide +kernel) (by decide +kernel)
theorem lk_Mo_153 : Cond.methodLink RX7 153 yX7_ones ∈ z_tbl := z_mem 921 (by decide +kernel) (by decide +kernel)
theorem lk_Mo_156 : Cond.methodLink RX7 156 yX7_common ∈ z_tbl := z_mem 928 (by decide +kernel) (by decide +kernel)
theorem lk_Mo_160 : Cond.methodLink RX7 160 yX7_partsFor ∈ z_tbl := z_mem 917 (by decide +kernel) (by decide +kernel)
theorem lk_Mo_165 : Cond.methodLink RX7 165 yX7_part ∈ z_tbl := z_mem 925 (by decide +kernel) (by decide +kernel)
theorem lk_Mo_173 : Cond.methodLink RX7 173 yX7_meanParts ∈ z_tbl := z_mem 937 (by decide +kernel) (by decide +kernel)
theorem lk_Mo_176 : Cond.methodLink RX7 176 yX7_meanBy ∈ z_tbl := z_mem 949 (by decide +kernel) (by decide +kernel)
theorem lk_Mo_179 : Cond.methodLink RX7 179 yX7_bestOf ∈ z_tbl := z_mem 945 (by decide +kernel) (by decide +kernel)
theorem lk_Mo_182 : Cond.methodLink RX7 182 yX7_isStill ∈ z_tbl := z_mem 957 (by decide +kernel) (by decide +kernel)
theorem lk_Mo_190 : Cond.methodLink RX7 190 yX7_areThree ∈ z_tbl := z_mem 970 (by decide +kernel) (by decide +kernel)
theorem lk_Mo_194 : Cond.methodLink RX7 194 yX7_leagueOf ∈ z_tbl := z_mem 974 (by decide +kernel) (by decide +kernel)
theorem lk_Mo_200 : Cond.methodLink RX7 200 yX7_areSums ∈ z_tbl := z_mem 986 (by decide +kernel) (by decide +kernel)
theorem lk_Mo_203 : Cond.methodLink RX7 203 yX7_wasThere ∈ z_tbl := z_mem 1002 (by decide +kernel) (by decide +kernel)
theorem lk_Mo_206 : Cond.methodLink RX7 206 yX7_areLeague ∈ z_tbl := z_mem 1010 (by decide +kernel) (by decide +kernel)
theorem lk_Mo_209 : Cond.methodLink RX7 209 yX7_carried ∈ z_tbl := z_mem 1022 (by decide +kernel) (by decide +kernel)
theorem lk_Mo_222 : Cond.methodLink RX7 222 yX7_isSheet ∈ z_tbl := z_mem 1034 (by decide +kernel) (by decide +kernel)
theorem lk_Mo_225 : Cond.methodLink RX7 225 yX7_lacksRow ∈ z_tbl := z_mem 1045 (by decide +kernel) (by decide +kernel)
theorem lk_Mo_229 : Cond.methodLink RX7 229 yX7_asLane ∈ z_tbl := z_mem 1049 (by decide +kernel) (by decide +kernel)
end
section
/-! COMPANY: contracts -/
abbrev wCo (ks ss : Int → Int) (n : Nat) (who ties : Int) : zW := [.inl (0, [.inr (.inr 1), .inr (.inr 2), .inl (n : Int), .inl who, .inl ties]), .inr (0, (9, .inl ks)), .inr (0, (9, .inl ss))]
def z_bool (c : Prop) (v : Option zV) : Prop := (c ∧ v = some (.inl 1)) ∨ (¬ c ∧ v = some (.inl 0))
theorem z_up {n : Nat} {P : Nat → Prop} (hx : P n) (hs : ∀ i, i < n → P (i + 1) → P i) : ∀ i, i ≤ n → P i := by
  intro i hi
  obtain ⟨d, rfl⟩ := Nat.exists_eq_add_of_le hi
  clear hi
  induction d generalizing i with
  | zero => exact hx
  | succ d ih => exact hs i (by omega) (ih (i + 1) (by rw [show i + 1 + d = i + (d + 1) by omega]; exact hx) (fun j hj => hs j (by omega)))
theorem z_up0 {n : Nat} {P : Nat → Prop} (hx : P n) (hs : ∀ i, i < n → P (i + 1) → P i) : P 0 := z_up hx hs 0 (Nat.zero_le _)
def zAbs (x : Int) : Int := if x < 0 then -x else x
def zOff (ss : Int → Int) (sum : Int) (o : Nat) : Int := zAbs (ss o - sum)
theorem zOff_in {ss : Int → Int} {sum : Int} {o : Nat} (h : 0 ≤ ss o ∧ ss o ≤ 20) (hs : 0 ≤ sum ∧ sum ≤ 20) : 0 ≤ zOff ss sum o ∧ zOff ss sum o ≤ 20 := by
  unfold zOff zAbs; split <;> omega
def zPlaceN (ss : Int → Int) (g : Nat) : Nat → Nat
  | 0 => 0
  | o + 1 => zPlaceN ss g o + (if ss o < ss g ∨ (ss o = ss g ∧ o < g) then 1 else 0)
theorem zPlaceN_le (ss : Int → Int) (g : Nat) : ∀ n, zPlaceN ss g n ≤ n
  | 0 => Nat.le_refl _
  | n + 1 => by have := zPlaceN_le ss g n; unfold zPlaceN; split <;> omega
def zAheadN (ss : Int → Int) (ties sum : Int) (g : Nat) : Nat → Nat
  | 0 => 0
  | o + 1 => zAheadN ss ties sum g o + (if zOff ss sum g < zOff ss sum o ∨ (zOff ss sum o = zOff ss sum g ∧ ((ties = 2 ∧ g < o) ∨ (ties ≠ 2 ∧ o < g))) then 1 else 0)
theorem zAheadN_le (ss : Int → Int) (ties sum : Int) (g : Nat) : ∀ n, zAheadN ss ties sum g n ≤ n
  | 0 => Nat.le_refl _
  | n + 1 => by have := zAheadN_le ss ties sum g n; unfold zAheadN; split <;> omega
def zShTwo (ss : Int → Int) (n : Nat) (ties sum : Int) (g : Nat) : Int := if 1 < zAheadN ss ties sum g n then 0 else if n = 1 then 2520 else 1260
def zBad (ss : Int → Int) (who ties sum : Int) (g : Nat) (free : Int) (o : Nat) : Prop := o ≠ g ∧ (o : Int) ≠ free ∧ ((who = 1 ∧ zOff ss sum o < zOff ss sum g) ∨ (who ≠ 1 ∧ zOff ss sum g < zOff ss sum o) ∨ (zOff ss sum o = zOff ss sum g ∧ ((ties = 0 ∧ o < g) ∨ (ties = 2 ∧ g < o))))
def zBadN (ss : Int → Int) (who ties sum : Int) (g : Nat) (free : Int) : Nat → Prop
  | 0 => False
  | o + 1 => zBadN ss who ties sum g free o ∨ zBad ss who ties sum g free o
theorem zBadN_iff {ss : Int → Int} {who ties sum : Int} {g : Nat} {free : Int} : ∀ {n : Nat}, zBadN ss who ties sum g free n ↔ ∃ o, o < n ∧ zBad ss who ties sum g free o
  | 0 => ⟨fun h => h.elim, fun ⟨o, h, _⟩ => absurd h (Nat.not_lt_zero o)⟩
  | n + 1 => by
    constructor
    · rintro (h | h)
      · obtain ⟨o, h1, h2⟩ := zBadN_iff.mp h; exact ⟨o, by omega, h2⟩
      · exact ⟨n, by omega, h⟩
    · rintro ⟨o, h1, h2⟩
      rcases Nat.lt_succ_iff_lt_or_eq.mp h1 with h | rfl
      · exact Or.inl (zBadN_iff.mpr ⟨o, h, h2⟩)
      · exact Or.inr h2
def zAlikeN (ss : Int → Int) (sum : Int) (g : Nat) (free : Int) : Nat → Nat
  | 0 => 0
  | o + 1 => zAlikeN ss sum g free o + (if o ≠ g ∧ (o : Int) ≠ free ∧ zOff ss sum o = zOff ss sum g then 1 else 0)
theorem zAlikeN_le (ss : Int → Int) (sum : Int) (g : Nat) (free : Int) : ∀ n, zAlikeN ss sum g free n ≤ n
  | 0 => Nat.le_refl _
  | n + 1 => by have := zAlikeN_le ss sum g free n; unfold zAlikeN; split <;> omega
noncomputable def zShMost (ss : Int → Int) (n : Nat) (who ties sum : Int) (g : Nat) (free : Int) : Int := @ite _ (zBadN ss who ties sum g free n) (Classical.propDecidable _) 0 (if ties = 1 then 2520 / (1 + (zAlikeN ss sum g free n : Int)) else 2520)
theorem zShMost_bad {ss : Int → Int} {n : Nat} {who ties sum : Int} {g : Nat} {free : Int} (h : zBadN ss who ties sum g free n) : zShMost ss n who ties sum g free = 0 := by unfold zShMost; rw [if_pos h]
theorem zShMost_good {ss : Int → Int} {n : Nat} {who ties sum : Int} {g : Nat} {free : Int} (h : ¬ zBadN ss who ties sum g free n) : zShMost ss n who ties sum g free = (if ties = 1 then 2520 / (1 + (zAlikeN ss sum g free n : Int)) else 2520) := by unfold zShMost; rw [if_neg h]
/-- the first guest at a place, from i on (d guests are left) -/
def zFindN (ss : Int → Int) (n mid : Nat) : Nat → Nat → Int
  | _, 0 => -1
  | i, d + 1 => if zPlaceN ss i n = mid then (i : Int) else zFindN ss n mid (i + 1) d
def zFree (ss : Int → Int) (n : Nat) (who : Int) : Int := if who = 3 ∧ 2 ≤ n then zFindN ss n ((n - 1) / 2) 0 n else -1
theorem zFindN_in (ss : Int → Int) (n mid : Nat) : ∀ d i, -1 ≤ zFindN ss n mid i d ∧ zFindN ss n mid i d < (i : Int) + d
  | 0, i => by unfold zFindN; omega
  | d + 1, i => by
    have := zFindN_in ss n mid d (i + 1)
    unfold zFindN; split <;> omega
theorem zFree_in (ss : Int → Int) (n : Nat) (who : Int) : -1 ≤ zFree ss n who ∧ zFree ss n who < max 0 (n : Int) := by
  unfold zFree; split
  · have := zFindN_in ss n ((n - 1) / 2) n 0; omega
  · omega
noncomputable def zSh (ss : Int → Int) (n : Nat) (who ties sum : Int) (g : Nat) (free : Int) : Int := if n ≤ g ∨ (g : Int) = free then 0 else if who = 2 then zShTwo ss n ties sum g else zShMost ss n who ties sum g free
theorem zShMost_in (ss : Int → Int) (n : Nat) (who ties sum : Int) (g : Nat) (free : Int) : 0 ≤ zShMost ss n who ties sum g free ∧ zShMost ss n who ties sum g free ≤ 2520 := by
  rcases Classical.em (zBadN ss who ties sum g free n) with h | h
  · rw [zShMost_bad h]; omega
  · rw [zShMost_good h]; split
    · exact ⟨Int.ediv_nonneg (by omega) (by omega), Int.ediv_le_self _ (by omega)⟩
    · omega
theorem zSh_in (ss : Int → Int) (n : Nat) (who ties sum : Int) (g : Nat) (free : Int) : 0 ≤ zSh ss n who ties sum g free ∧ zSh ss n who ties sum g free ≤ 2520 := by
  unfold zSh; split
  · omega
  · split
    · unfold zShTwo; split
      · omega
      · split <;> omega
    · exact zShMost_in ..
theorem c_Ja_abs {x : Int} (h : -2147483647 ≤ x ∧ x ≤ 2147483647) : zMet m_Ja_abs [.inl x] [] (fun v w => v = some (.inl (zAbs x)) ∧ w = []) := by
  refine zMet.of (own := "java/lang/Math") rfl (by decide +kernel) tk_Ja_abs fok_Jm cok_Jm (Nat.le_of_ble_eq_true rfl) (fun G hG => ?_)
  refine hG.1 [] 80 _ _ _ _ ?_
  refine ⟨by omega, fun h1 => ?_, fun h1 => ?_⟩
  · exact ⟨trivial, by rw [zAbs, if_neg (by omega)], rfl⟩
  · exact ⟨trivial, by rw [zAbs, if_pos h1], rfl⟩
theorem c_Ja_min {x y : Int} (hx : -2147483648 ≤ x ∧ x ≤ 2147483647) (hy : -2147483648 ≤ y ∧ y ≤ 2147483647) : zMet m_Ja_min [.inl x, .inl y] [] (fun v w => v = some (.inl (if x ≤ y then x else y)) ∧ w = []) := by
  refine zMet.of (own := "java/lang/Math") rfl (by decide +kernel) tk_Ja_min fok_Jm cok_Jm (Nat.le_of_ble_eq_true rfl) (fun G hG => ?_)
  refine hG.1 [] 80 _ _ _ _ ?_
  refine ⟨by omega, fun h1 => ?_, fun h1 => ?_⟩
  · exact ⟨trivial, by rw [if_neg (by omega)], rfl⟩
  · exact ⟨trivial, by rw [if_pos h1], rfl⟩
section Co
variable {ks ss : Int → Int} {n : Nat} {who ties : Int}
theorem c_Co_size : zMet m_Co_size [.inr (.inr 0)] (wCo ks ss n who ties) (fun v w => v = some (.inl (n : Int)) ∧ w = wCo ks ss n who ties) := by
  refine zMet.of (own := RX0) rfl (by decide +kernel) tk_Co_size fok_Co cok_Co (Nat.le_of_ble_eq_true rfl) (fun G hG => ?_)
  refine hG.1 [] 80 _ _ _ _ ?_
  exact ⟨trivial, rfl, rfl⟩
theorem c_Co_has {g : Int} (hg : -2147483648 ≤ g ∧ g ≤ 2147483647) (hn : n ≤ 9) :
    zMet m_Co_has [.inr (.inr 0), .inl g] (wCo ks ss n who ties) (fun v w => z_bool (0 ≤ g ∧ g < n) v ∧ w = wCo ks ss n who ties) := by
  refine zMet.of (own := RX0) rfl (by decide +kernel) tk_Co_has fok_Co cok_Co (Nat.le_of_ble_eq_true rfl) (fun G hG => ?_)
  refine hG.1 [] 80 _ _ _ _ ?_
  refine ⟨by omega, fun h1 => ?_, fun h1 => ?_⟩
  · exact ⟨Or.inl rfl, Or.inr ⟨by omega, rfl⟩, rfl⟩
  · refine ⟨by omega, fun h2 => ?_, fun h2 => ?_⟩
    · exact ⟨Or.inl rfl, Or.inr ⟨by omega, rfl⟩, rfl⟩
    · exact ⟨Or.inr rfl, Or.inl ⟨by omega, rfl⟩, rfl⟩
theorem c_Co_kindOf {g : Nat} (hg : g < n) (hn : n ≤ 9) :
    zMet m_Co_kindOf [.inr (.inr 0), .inl g] (wCo ks ss n who ties) (fun v w => v = some (.inl (ks g)) ∧ w = wCo ks ss n who ties) := by
  refine zMet.of (own := RX0) rfl (by decide +kernel) tk_Co_kindOf fok_Co cok_Co (Nat.le_of_ble_eq_true rfl) (fun G hG => ?_)
  refine hG.1 [] 80 _ _ _ _ ?_
  refine hG.2.1 (c_Co_has (g := (g : Int)) (by omega) hn) yv_Co_has lk_Co_28 (by decide +kernel) rfl rfl [0, 1, 2] (by decide +kernel) rfl rfl rfl (Nat.le_of_ble_eq_true rfl) (fun v w2 hv hl2 => ?_)
  obtain ⟨⟨hc, rfl⟩ | ⟨hc, rfl⟩, rfl⟩ := hv
  · refine hG.1 [] 80 _ _ _ _ ?_
    refine ⟨by omega, fun h1 => absurd h1 (by omega), fun h1 => ?_⟩
    exact ⟨by omega, trivial, rfl, rfl⟩
  · exact absurd (show 0 ≤ (g : Int) ∧ (g : Int) < n by omega) hc
theorem c_Co_slipOf {g : Nat} (hg : g < n) (hn : n ≤ 9) :
    zMet m_Co_slipOf [.inr (.inr 0), .inl g] (wCo ks ss n who ties) (fun v w => v = some (.inl (ss g)) ∧ w = wCo ks ss n who ties) := by
  refine zMet.of (own := RX0) rfl (by decide +kernel) tk_Co_slipOf fok_Co cok_Co (Nat.le_of_ble_eq_true rfl) (fun G hG => ?_)
  refine hG.1 [] 80 _ _ _ _ ?_
  refine hG.2.1 (c_Co_has (g := (g : Int)) (by omega) hn) yv_Co_has lk_Co_28 (by decide +kernel) rfl rfl [0, 1, 2] (by decide +kernel) rfl rfl rfl (Nat.le_of_ble_eq_true rfl) (fun v w2 hv hl2 => ?_)
  obtain ⟨⟨hc, rfl⟩ | ⟨hc, rfl⟩, rfl⟩ := hv
  · refine hG.1 [] 80 _ _ _ _ ?_
    refine ⟨by omega, fun h1 => absurd h1 (by omega), fun h1 => ?_⟩
    exact ⟨by omega, trivial, rfl, rfl⟩
  · exact absurd (show 0 ≤ (g : Int) ∧ (g : Int) < n by omega) hc
theorem c_Co_isNought {g : Nat} (hg : g < n) (hn : n ≤ 9) (hk : 0 ≤ ks g ∧ ks g ≤ 3) :
    zMet m_Co_isNought [.inr (.inr 0), .inl g] (wCo ks ss n who ties) (fun v w => z_bool (ks g = 2) v ∧ w = wCo ks ss n who ties) := by
  refine zMet.of (own := RX0) rfl (by decide +kernel) tk_Co_isNought fok_Co cok_Co (Nat.le_of_ble_eq_true rfl) (fun G hG => ?_)
  refine hG.1 [] 80 _ _ _ _ ?_
  refine hG.2.1 (c_Co_kindOf hg hn) yv_Co_kindOf lk_Co_32 (by decide +kernel) rfl rfl [0, 1, 2] (by decide +kernel) rfl rfl rfl (Nat.le_of_ble_eq_true rfl) (fun v w2 hv hl2 => ?_)
  obtain ⟨rfl, rfl⟩ := hv
  refine hG.1 [] 80 _ _ _ _ ?_
  refine ⟨by omega, fun h1 => ?_, fun h1 => ?_⟩
  · exact ⟨Or.inl rfl, Or.inr ⟨h1, rfl⟩, rfl⟩
  · exact ⟨Or.inr rfl, Or.inl ⟨h1, rfl⟩, rfl⟩
theorem c_Co_putSlip {g : Nat} {x : Int} (hg : g < n) (hn : n ≤ 9) :
    zMet m_Co_putSlip [.inr (.inr 0), .inl g, .inl x] (wCo ks ss n who ties) (fun v w => v = none ∧ w = wCo ks (z_u ss g x) n who ties) := by
  refine zMet.of (own := RX0) rfl (by decide +kernel) tk_Co_putSlip fok_Co cok_Co (Nat.le_of_ble_eq_true rfl) (fun G hG => ?_)
  refine hG.1 [] 80 _ _ _ _ ?_
  refine hG.2.1 (c_Co_has (g := (g : Int)) (by omega) hn) yv_Co_has lk_Co_28 (by decide +kernel) rfl rfl [0, 1, 2] (by decide +kernel) rfl rfl rfl (Nat.le_of_ble_eq_true rfl) (fun v w2 hv hl2 => ?_)
  obtain ⟨⟨hc, rfl⟩ | ⟨hc, rfl⟩, rfl⟩ := hv
  · refine hG.1 [] 80 _ _ _ _ ?_
    refine ⟨by omega, fun h1 => absurd h1 (by omega), fun h1 => ?_⟩
    exact ⟨by omega, trivial, rfl, rfl⟩
  · exact absurd (show 0 ≤ (g : Int) ∧ (g : Int) < n by omega) hc
theorem c_Co_seat {k x : Int} (hn : n < 9) :
    zMet m_Co_seat [.inr (.inr 0), .inl k, .inl x] (wCo ks ss n who ties) (fun v w => v = none ∧ w = wCo (z_u ks n k) (z_u ss n x) (n + 1) who ties) := by
  refine zMet.of (own := RX0) rfl (by decide +kernel) tk_Co_seat fok_Co cok_Co (Nat.le_of_ble_eq_true rfl) (fun G hG => ?_)
  refine hG.1 [] 80 _ _ _ _ ?_
  refine ⟨by omega, fun h1 => absurd h1 (by omega), fun h1 => ?_⟩
  exact ⟨by omega, by omega, trivial, rfl, rfl⟩
theorem c_Co_clear : zMet m_Co_clear [.inr (.inr 0)] (wCo ks ss n who ties) (fun v w => v = none ∧ w = wCo ks ss 0 who ties) := by
  refine zMet.of (own := RX0) rfl (by decide +kernel) tk_Co_clear fok_Co cok_Co (Nat.le_of_ble_eq_true rfl) (fun G hG => ?_)
  refine hG.1 [] 80 _ _ _ _ ?_
  exact ⟨trivial, rfl, rfl⟩
theorem c_Co_changeWho {x : Int} : zMet m_Co_changeWho [.inr (.inr 0), .inl x] (wCo ks ss n who ties) (fun v w => v = some (.inl who) ∧ w = wCo ks ss n x ties) := by
  refine zMet.of (own := RX0) rfl (by decide +kernel) tk_Co_changeWho fok_Co cok_Co (Nat.le_of_ble_eq_true rfl) (fun G hG => ?_)
  refine hG.1 [] 80 _ _ _ _ ?_
  exact ⟨trivial, rfl, rfl⟩
theorem c_Co_changeTies {x : Int} : zMet m_Co_changeTies [.inr (.inr 0), .inl x] (wCo ks ss n who ties) (fun v w => v = some (.inl ties) ∧ w = wCo ks ss n who x) := by
  refine zMet.of (own := RX0) rfl (by decide +kernel) tk_Co_changeTies fok_Co cok_Co (Nat.le_of_ble_eq_true rfl) (fun G hG => ?_)
  refine hG.1 [] 80 _ _ _ _ ?_
  exact ⟨trivial, rfl, rfl⟩
theorem c_Co_placeOf {g : Nat} (hg : g < n) (hn : n ≤ 9) (hs : ∀ j : Nat, j < n → 0 ≤ ss j ∧ ss j ≤ 20) :
    zMet m_Co_placeOf [.inr (.inr 0), .inl g] (wCo ks ss n who ties) (fun v w => v = some (.inl (zPlaceN ss g n : Int)) ∧ w = wCo ks ss n who ties) := by
  have hsg := hs g hg
  refine zMet.of (own := RX0) rfl (by decide +kernel) tk_Co_placeOf fok_Co cok_Co (Nat.le_of_ble_eq_true rfl) (fun G hG => ?_)
  refine hG.1 [12] 80 _ _ _ _ ?_
  refine ⟨by omega, ?_⟩
  refine z_up0 (n := n) (P := fun i : Nat => G 12 [(0, .inr (.inr 0)), (1, .inl (g : Int)), (2, .inl (ss g)), (3, .inl (zPlaceN ss g i : Int)), (4, .inl (i : Int))] [] (wCo ks ss n who ties)) ?_ (fun i hi ih => ?_)
  · refine hG.1 [] 80 _ _ _ _ ?_
    refine ⟨by omega, fun h1 => ?_, fun h1 => absurd h1 (by omega)⟩
    exact ⟨trivial, rfl, rfl⟩
  · have hsi := hs i hi
    have e : zPlaceN ss g (i + 1) = zPlaceN ss g i + (if ss i < ss g ∨ (ss i = ss g ∧ i < g) then 1 else 0) := rfl
    refine hG.1 [12] 80 _ _ _ _ ?_
    refine ⟨by omega, fun h1 => absurd h1 (by omega), fun h1 => ?_⟩
    refine ⟨by omega, by omega, fun h2 => ?_, fun h2 => ?_⟩
    · rw [if_pos (Or.inl h2)] at e
      rw [e] at ih; exact ih
    · refine ⟨by omega, by omega, fun h3 => ?_, fun h3 => ?_⟩
      · rw [if_neg (by omega)] at e
        rw [e] at ih; exact ih
      · refine ⟨by omega, fun h4 => ?_, fun h4 => ?_⟩
        · rw [if_neg (by omega)] at e
          rw [e] at ih; exact ih
        · rw [if_pos (by omega)] at e
          rw [e] at ih; exact ih
end Co
end
section
/-! COMPANY (the rest), SUPPER, SHEET -/
theorem c_Fp_isSum {x : Int} (h : -2147483648 ≤ x ∧ x ≤ 2147483647) : zMet m_Fp_isSum [.inl x] [] (fun v w => z_bool (0 ≤ x ∧ x < 21) v ∧ w = []) := by
  refine zMet.of (own := RX6) rfl (by decide +kernel) tk_Fp_isSum fok_Fp cok_Fp (Nat.le_of_ble_eq_true rfl) (fun G hG => ?_)
  refine hG.1 [] 80 _ _ _ _ ?_
  refine ⟨by omega, fun h1 => ?_, fun h1 => ?_⟩
  · exact ⟨Or.inl rfl, Or.inr ⟨by omega, rfl⟩, rfl⟩
  · refine ⟨by omega, fun h2 => ?_, fun h2 => ?_⟩
    · exact ⟨Or.inl rfl, Or.inr ⟨by omega, rfl⟩, rfl⟩
    · exact ⟨Or.inr rfl, Or.inl ⟨by omega, rfl⟩, rfl⟩
section Co2
variable {ks ss : Int → Int} {n : Nat} {who ties : Int}
theorem c_Co_freeGuest (hn : n ≤ 9) (hw : 0 ≤ who ∧ who ≤ 3) (hs : ∀ j : Nat, j < n → 0 ≤ ss j ∧ ss j ≤ 20) :
    zMet m_Co_freeGuest [.inr (.inr 0)] (wCo ks ss n who ties) (fun v w => v = some (.inl (zFree ss n who)) ∧ w = wCo ks ss n who ties) := by
  refine zMet.of (own := RX0) rfl (by decide +kernel) tk_Co_freeGuest fok_Co cok_Co (Nat.le_of_ble_eq_true rfl) (fun G hG => ?_)
  refine hG.1 [29] 80 _ _ _ _ ?_
  refine ⟨by omega, fun h1 => ?_, fun h1 => ?_⟩
  · refine ⟨trivial, ?_, rfl⟩
    rw [zFree, if_neg (fun q => h1 q.1)]
  · refine ⟨by omega, fun h2 => ?_, fun h2 => ?_⟩
    · refine ⟨by omega, ?_⟩
      have key : ∀ d i : Nat, i + d = n → zFindN ss n ((n - 1) / 2) i d = zFree ss n who → G 29 [(0, .inr (.inr 0)), (1, .inl (((n : Int) - 1) / 2)), (2, .inl (i : Int))] [] (wCo ks ss n who ties) := by
        intro d
        induction d with
        | zero =>
          intro i hi he
          refine hG.1 [] 80 _ _ _ _ ?_
          refine ⟨by omega, fun h3 => ?_, fun h3 => absurd h3 (by omega)⟩
          exact ⟨trivial, by rw [← he]; rfl, rfl⟩
        | succ d ih =>
          intro i hi he
          refine hG.1 [] 80 _ _ _ _ ?_
          refine ⟨by omega, fun h3 => absurd h3 (by omega), fun h3 => ?_⟩
          refine hG.2.1 (c_Co_placeOf (show i < n by omega) hn hs) yv_Co_placeOf lk_Co_60 (by decide +kernel) rfl rfl [0, 1, 2] (by decide +kernel) rfl rfl rfl (Nat.le_of_ble_eq_true rfl) (fun v w2 hv hl2 => ?_)
          obtain ⟨rfl, rfl⟩ := hv
          have hle := zPlaceN_le ss i n
          refine hG.1 [29] 80 _ _ _ _ ?_
          refine ⟨by omega, fun h4 => ?_, fun h4 => ?_⟩
          · refine ih (i + 1) (by omega) ?_
            rw [← he]
            show _ = (if zPlaceN ss i n = (n - 1) / 2 then (i : Int) else _)
            rw [if_neg (by omega)]
          · refine ⟨trivial, ?_, rfl⟩
            rw [← he]
            show _ = some (Sum.inl (if zPlaceN ss i n = (n - 1) / 2 then (i : Int) else _))
            rw [if_pos (by omega)]
      exact key n 0 (by omega) (by rw [zFree, if_pos (by omega)])
    · refine ⟨trivial, ?_, rfl⟩
      rw [zFree, if_neg (by omega)]
theorem c_Co_shareOfTwo {g : Nat} {sum : Int} (hg : g < n) (hn : n ≤ 9) (ht : 0 ≤ ties ∧ ties ≤ 2) (hs : ∀ j : Nat, j < n → 0 ≤ ss j ∧ ss j ≤ 20) (hsum : 0 ≤ sum ∧ sum ≤ 20) :
    zMet m_Co_shareOfTwo [.inr (.inr 0), .inl g, .inl sum] (wCo ks ss n who ties) (fun v w => v = some (.inl (zShTwo ss n ties sum g)) ∧ w = wCo ks ss n who ties) := by
  have hsg := hs g hg
  have hog := zOff_in hsg hsum
  refine zMet.of (own := RX0) rfl (by decide +kernel) tk_Co_shareOfTwo fok_Co cok_Co (Nat.le_of_ble_eq_true rfl) (fun G hG => ?_)
  refine hG.1 [] 80 _ _ _ _ ?_
  refine ⟨by omega, ?_⟩
  refine hG.2.2.1 (c_Ja_abs (x := ss g - sum) (by omega)) ys_Ja_abs (Or.inl lk_Co_70) (by decide +kernel) rfl [] (by decide +kernel) rfl rfl rfl (Nat.le_of_ble_eq_true rfl) (fun v w2 hv hl2 => ?_)
  obtain ⟨rfl, rfl⟩ := hv
  refine hG.1 [18] 80 _ _ _ _ ?_
  refine z_up0 (n := n) (P := fun i : Nat => G 18 [(0, .inr (.inr 0)), (1, .inl (g : Int)), (2, .inl sum), (3, .inl (zOff ss sum g)), (4, .inl (zAheadN ss ties sum g i : Int)), (5, .inl (i : Int))] [] (wCo ks ss n who ties)) ?_ (fun i hi ih => ?_)
  · have hle := zAheadN_le ss ties sum g n
    refine hG.1 [] 80 _ _ _ _ ?_
    refine ⟨by omega, fun h1 => ?_, fun h1 => absurd h1 (by omega)⟩
    refine ⟨by omega, fun h2 => ?_, fun h2 => ?_⟩
    · refine ⟨by omega, fun h3 => ?_, fun h3 => ?_⟩
      · refine ⟨trivial, ?_, rfl⟩
        rw [zShTwo, if_neg (by omega), if_neg (by omega)]
      · refine ⟨trivial, ?_, rfl⟩
        rw [zShTwo, if_neg (by omega), if_pos (by omega)]
    · refine ⟨trivial, ?_, rfl⟩
      rw [zShTwo, if_pos (by omega)]
  · have hsi := hs i hi
    have hoi := zOff_in hsi hsum
    have e : zAheadN ss ties sum g (i + 1) = zAheadN ss ties sum g i + (if zOff ss sum g < zOff ss sum i ∨ (zOff ss sum i = zOff ss sum g ∧ ((ties = 2 ∧ g < i) ∨ (ties ≠ 2 ∧ i < g))) then 1 else 0) := rfl
    refine hG.1 [] 80 _ _ _ _ ?_
    refine ⟨by omega, fun h1 => absurd h1 (by omega), fun h1 => ?_⟩
    refine ⟨by omega, ?_⟩
    refine hG.2.2.1 (c_Ja_abs (x := ss i - sum) (by omega)) ys_Ja_abs (Or.inl lk_Co_70) (by decide +kernel) rfl [] (by decide +kernel) rfl rfl rfl (Nat.le_of_ble_eq_true rfl) (fun v w2 hv hl2 => ?_)
    obtain ⟨rfl, rfl⟩ := hv
    -- behind the two flags: the rest of the body
    have tail : ∀ b : Int, (b = 0 ∨ b = 1) → (b = 1 ↔ ((ties = 2 ∧ g < i) ∨ (ties ≠ 2 ∧ i < g))) → G 74 [(0, .inr (.inr 0)), (1, .inl (g : Int)), (2, .inl sum), (3, .inl (zOff ss sum g)), (4, .inl (zAheadN ss ties sum g i : Int)), (5, .inl (i : Int)), (6, .inl (zOff ss sum i))] [.inl b] (wCo ks ss n who ties) := by
      intro b hb hb1
      refine hG.1 [18] 80 _ _ _ _ ?_
      refine ⟨by omega, fun h2 => ?_, fun h2 => ?_⟩
      · rw [if_pos (by omega)] at e
        rw [e] at ih
        exact hG.2.2.2.2.1 (fun q hq => List.mem_append_left _ hq) ih
      · refine ⟨by omega, fun h3 => ?_, fun h3 => ?_⟩
        · rw [if_neg (by omega)] at e
          rw [e] at ih
          exact hG.2.2.2.2.1 (fun q hq => List.mem_append_left _ hq) ih
        · refine ⟨by omega, fun h4 => ?_, fun h4 => ?_⟩
          · rw [if_neg (by omega)] at e
            rw [e] at ih
            exact hG.2.2.2.2.1 (fun q hq => List.mem_append_left _ hq) ih
          · rw [if_pos (by omega)] at e
            rw [e] at ih
            exact hG.2.2.2.2.1 (fun q hq => List.mem_append_left _ hq) ih
    refine hG.1 [74] 80 _ _ _ _ ?_
    refine ⟨by omega, fun h2 => ?_, fun h2 => ?_⟩
    · refine ⟨by omega, fun h3 => ?_, fun h3 => ?_⟩
      · exact tail 0 (by omega) (by omega)
      · exact tail 1 (by omega) (by omega)
    · refine ⟨by omega, fun h3 => ?_, fun h3 => ?_⟩
      · exact tail 0 (by omega) (by omega)
      · exact tail 1 (by omega) (by omega)
end Co2
end
section
/-! COMPANY: shares, payers, writing, copies -/
theorem z_bits1 : ∀ g, g < 12 → ∀ m, m < 2 ^ g → z_or (m : Nat) (1 * 2 ^ ((g : Nat) : Int).toNat) = ((m + 2 ^ g : Nat) : Int) := by decide +kernel
def zMaskN (p : Nat → Bool) : Nat → Nat
  | 0 => 0
  | k + 1 => zMaskN p k + (if p k = true then 2 ^ k else 0)
theorem zMaskN_lt (p : Nat → Bool) : ∀ k, zMaskN p k < 2 ^ k
  | 0 => Nat.zero_lt_one
  | k + 1 => by
    have := zMaskN_lt p k
    rw [Nat.pow_succ]
    unfold zMaskN; split <;> omega
noncomputable def zPay (ss : Int → Int) (n : Nat) (who ties sum : Int) : Nat → Bool := fun g => decide (0 < zSh ss n who ties sum g (zFree ss n who))
def zAlone (ks ss : Int → Int) (sum mean : Int) (j : Int) : Int := if ks j = 1 then mean else if ks j = 2 then 0 else if ks j = 3 then sum else ss j
def zWr (ks ss : Int → Int) (sum mean : Int) (i : Nat) : Int → Int := fun j => if 0 ≤ j ∧ j < (i : Int) then zAlone ks ss sum mean j else ss j
def zChgN (ks ss : Int → Int) (sum mean : Int) : Nat → Nat
  | 0 => 0
  | k + 1 => zChgN ks ss sum mean k + (if zAlone ks ss sum mean k = ss k then 0 else 1)
theorem zWr_put (ks ss : Int → Int) (sum mean : Int) (i : Nat) : z_u (zWr ks ss sum mean i) i (zAlone ks ss sum mean i) = zWr ks ss sum mean (i + 1) := by
  funext j
  unfold z_u zWr
  by_cases h : j = (i : Int)
  · subst h; rw [if_pos rfl, if_pos (by omega)]
  · rw [if_neg h]
    by_cases h2 : 0 ≤ j ∧ j < (i : Int)
    · rw [if_pos h2, if_pos (by omega)]
    · rw [if_neg h2, if_neg (by omega)]
theorem zWr_keep {ks ss : Int → Int} {sum mean : Int} {i : Nat} (h : zAlone ks ss sum mean i = ss i) : zWr ks ss sum mean i = zWr ks ss sum mean (i + 1) := by
  rw [← zWr_put]
  funext j
  unfold z_u
  by_cases hj : j = (i : Int)
  · subst hj; rw [if_pos rfl, h, zWr, if_neg (by omega)]
  · rw [if_neg hj]
theorem zWr_0 (ks ss : Int → Int) (sum mean : Int) : zWr ks ss sum mean 0 = ss := by
  funext j; unfold zWr; rw [if_neg (by omega)]
theorem zWr_at (ks ss : Int → Int) (sum mean : Int) (i : Nat) : zWr ks ss sum mean i i = ss i := by
  unfold zWr; rw [if_neg (by omega)]
abbrev wCo2 (ks ss : Int → Int) (n : Nat) (who ties : Int) (ks' ss' : Int → Int) (n' : Nat) (who' ties' : Int) : zW := [.inl (0, [.inr (.inr 1), .inr (.inr 2), .inl (n : Int), .inl who, .inl ties]), .inr (0, (9, .inl ks)), .inr (0, (9, .inl ss)), .inl (0, [.inr (.inr 4), .inr (.inr 5), .inl (n' : Int), .inl who', .inl ties']), .inr (0, (9, .inl ks')), .inr (0, (9, .inl ss'))]
section Co3
variable {ks ss : Int → Int} {n : Nat} {who ties : Int}
theorem c_Co_shareOfMost {g : Nat} {sum free : Int} (hg : g < n) (hn : n ≤ 9) (hw : 0 ≤ who ∧ who ≤ 3) (ht : 0 ≤ ties ∧ ties ≤ 2) (hs : ∀ j : Nat, j < n → 0 ≤ ss j ∧ ss j ≤ 20) (hsum : 0 ≤ sum ∧ sum ≤ 20) (hf : -1 ≤ free ∧ free ≤ 9) :
    zMet m_Co_shareOfMost [.inr (.inr 0), .inl g, .inl sum, .inl free] (wCo ks ss n who ties) (fun v w => v = some (.inl (zShMost ss n who ties sum g free)) ∧ w = wCo ks ss n who ties) := by
  have hsg := hs g hg
  have hog := zOff_in hsg hsum
  refine zMet.of (own := RX0) rfl (by decide +kernel) tk_Co_shareOfMost fok_Co cok_Co (Nat.le_of_ble_eq_true rfl) (fun G hG => ?_)
  refine hG.1 [] 80 _ _ _ _ ?_
  refine ⟨by omega, ?_⟩
  refine hG.2.2.1 (c_Ja_abs (x := ss g - sum) (by omega)) ys_Ja_abs (Or.inl lk_Co_70) (by decide +kernel) rfl [] (by decide +kernel) rfl rfl rfl (Nat.le_of_ble_eq_true rfl) (fun v w2 hv hl2 => ?_)
  obtain ⟨rfl, rfl⟩ := hv
  refine hG.1 [19] 80 _ _ _ _ ?_
  suffices L : ∀ i, i ≤ n → (¬ zBadN ss who ties sum g free i → G 19 [(0, .inr (.inr 0)), (1, .inl (g : Int)), (2, .inl sum), (3, .inl free), (4, .inl (zOff ss sum g)), (5, .inl (1 + (zAlikeN ss sum g free i : Int))), (6, .inl (i : Int))] [] (wCo ks ss n who ties)) from L 0 (by omega) (fun h => h)
  refine z_up (fun hb => ?_) (fun i hi ih hb => ?_)
  · have hle := zAlikeN_le ss sum g free n
    refine hG.1 [] 80 _ _ _ _ ?_
    refine ⟨by omega, fun h1 => ?_, fun h1 => absurd h1 (by omega)⟩
    refine ⟨by omega, fun h2 => ?_, fun h2 => ?_⟩
    · exact ⟨trivial, by rw [zShMost_good hb, if_neg h2], rfl⟩
    · exact ⟨by omega, trivial, by rw [zShMost_good hb, if_pos h2], rfl⟩
  · have hsi := hs i hi
    have hoi := zOff_in hsi hsum
    have e : zAlikeN ss sum g free (i + 1) = zAlikeN ss sum g free i + (if i ≠ g ∧ (i : Int) ≠ free ∧ zOff ss sum i = zOff ss sum g then 1 else 0) := rfl
    have hbd : zBadN ss who ties sum g free (i + 1) ↔ zBadN ss who ties sum g free i ∨ zBad ss who ties sum g free i := Iff.rfl
    have hout : zBad ss who ties sum g free i → zShMost ss n who ties sum g free = 0 := fun h => zShMost_bad (zBadN_iff.mpr ⟨i, hi, h⟩)
    have hgo : ¬ zBad ss who ties sum g free i → ¬ zBadN ss who ties sum g free (i + 1) := fun h q => q.elim hb h
    unfold zBad at hout hgo
    refine hG.1 [19] 80 _ _ _ _ ?_
    refine ⟨by omega, fun h1 => absurd h1 (by omega), fun h1 => ?_⟩
    refine ⟨by omega, fun h2 => ?_, fun h2 => ?_⟩
    · have ih := ih (hgo (by omega))
      rw [e, if_neg (by omega)] at ih
      exact ih
    · refine ⟨by omega, fun h3 => ?_, fun h3 => ?_⟩
      · refine ⟨by omega, ?_⟩
        refine hG.2.2.1 (c_Ja_abs (x := ss i - sum) (by omega)) ys_Ja_abs (Or.inl lk_Co_70) (by decide +kernel) rfl [] (by decide +kernel) rfl rfl rfl (Nat.le_of_ble_eq_true rfl) (fun v w2 hv hl2 => ?_)
        obtain ⟨rfl, rfl⟩ := hv
        have back : zAbs (ss i - sum) = zOff ss sum i := rfl
        rw [back]
        have tail : ((who = 1 ∧ zOff ss sum g ≤ zOff ss sum i) ∨ (who ≠ 1 ∧ zOff ss sum i ≤ zOff ss sum g)) → G 84 [(0, .inr (.inr 0)), (1, .inl (g : Int)), (2, .inl sum), (3, .inl free), (4, .inl (zOff ss sum g)), (5, .inl (1 + (zAlikeN ss sum g free i : Int))), (6, .inl (i : Int)), (7, .inl (zOff ss sum i))] [] (wCo ks ss n who ties) := by
          intro hc
          refine hG.1 [19] 80 _ _ _ _ ?_
          refine ⟨by omega, fun h5 => ?_, fun h5 => ?_⟩
          · have ih := ih (hgo (by omega))
            rw [e, if_neg (by omega)] at ih
            exact hG.2.2.2.2.1 (fun q hq => List.mem_append_left _ hq) ih
          · have fin : (¬ (ties = 0 ∧ i < g)) → (¬ (ties = 2 ∧ g < i)) → G 19 [(0, .inr (.inr 0)), (1, .inl (g : Int)), (2, .inl sum), (3, .inl free), (4, .inl (zOff ss sum g)), (5, .inl (1 + (zAlikeN ss sum g free i : Int) + 1)), (6, .inl ((i : Int) + 1)), (7, .inl (zOff ss sum i))] [] (wCo ks ss n who ties) := by
              intro a1 a2
              have ih := ih (hgo (by omega))
              rw [e, if_pos (by omega)] at ih
              exact hG.2.2.2.2.1 (fun q hq => List.mem_append_left _ hq) ih
            refine ⟨by omega, fun h6 => ?_, fun h6 => ?_⟩
            · refine ⟨by omega, fun h7 => ?_, fun h7 => ?_⟩
              · exact fin (by omega) (by omega)
              · refine ⟨by omega, fun h8 => ?_, fun h8 => ?_⟩
                · exact fin (by omega) (by omega)
                · exact ⟨trivial, by rw [hout (by omega)], rfl⟩
            · refine ⟨by omega, fun h7 => ?_, fun h7 => ?_⟩
              · exact ⟨trivial, by rw [hout (by omega)], rfl⟩
              · refine ⟨by omega, fun h8 => ?_, fun h8 => ?_⟩
                · exact fin (by omega) (by omega)
                · exact absurd h8 (by omega)
        refine hG.1 [84] 80 _ _ _ _ ?_
        refine ⟨by omega, fun h4 => ?_, fun h4 => ?_⟩
        · refine ⟨by omega, fun h5 => ?_, fun h5 => ?_⟩
          · exact tail (by omega)
          · exact ⟨trivial, by rw [hout (by omega)], rfl⟩
        · refine ⟨by omega, fun h5 => ?_, fun h5 => ?_⟩
          · exact tail (by omega)
          · exact ⟨trivial, by rw [hout (by omega)], rfl⟩
      · have ih := ih (hgo (by omega))
        rw [e, if_neg (by omega)] at ih
        exact ih
theorem c_Co_share {g : Nat} {sum free : Int} (hg : g < 100) (hn : n ≤ 9) (hw : 0 ≤ who ∧ who ≤ 3) (ht : 0 ≤ ties ∧ ties ≤ 2) (hs : ∀ j : Nat, j < n → 0 ≤ ss j ∧ ss j ≤ 20) (hsum : 0 ≤ sum ∧ sum ≤ 20) (hf : -1 ≤ free ∧ free ≤ 9) :
    zMet m_Co_share [.inr (.inr 0), .inl g, .inl sum, .inl free] (wCo ks ss n who ties) (fun v w => v = some (.inl (zSh ss n who ties sum g free)) ∧ w = wCo ks ss n who ties) := by
  refine zMet.of (own := RX0) rfl (by decide +kernel) tk_Co_share fok_Co cok_Co (Nat.le_of_ble_eq_true rfl) (fun G hG => ?_)
  refine hG.1 [] 80 _ _ _ _ ?_
  refine hG.2.1 (c_Co_has (g := (g : Int)) (by omega) hn) yv_Co_has lk_Co_28 (by decide +kernel) rfl rfl [0, 1, 2] (by decide +kernel) rfl rfl rfl (Nat.le_of_ble_eq_true rfl) (fun v w2 hv hl2 => ?_)
  obtain ⟨⟨hc, rfl⟩ | ⟨hc, rfl⟩, rfl⟩ := hv
  · refine hG.1 [] 80 _ _ _ _ ?_
    refine ⟨by omega, fun h1 => absurd h1 (by omega), fun h1 => ?_⟩
    refine ⟨by omega, fun h2 => ?_, fun h2 => ?_⟩
    · refine ⟨by omega, fun h3 => ?_, fun h3 => ?_⟩
      · refine hG.2.1 (c_Co_shareOfMost (by omega) hn hw ht hs hsum hf) yv_Co_shareOfMost lk_Co_67 (by decide +kernel) rfl rfl [0, 1, 2] (by decide +kernel) rfl rfl rfl (Nat.le_of_ble_eq_true rfl) (fun v w2 hv hl2 => ?_)
        obtain ⟨rfl, rfl⟩ := hv
        refine hG.1 [] 80 _ _ _ _ ?_
        exact ⟨trivial, by rw [zSh, if_neg (by omega), if_neg h3], rfl⟩
      · refine hG.2.1 (c_Co_shareOfTwo (by omega) hn ht hs hsum) yv_Co_shareOfTwo lk_Co_63 (by decide +kernel) rfl rfl [0, 1, 2] (by decide +kernel) rfl rfl rfl (Nat.le_of_ble_eq_true rfl) (fun v w2 hv hl2 => ?_)
        obtain ⟨rfl, rfl⟩ := hv
        refine hG.1 [] 80 _ _ _ _ ?_
        exact ⟨trivial, by rw [zSh, if_neg (by omega), if_pos h3], rfl⟩
    · exact ⟨trivial, by rw [zSh, if_pos (by omega)], rfl⟩
  · refine hG.1 [] 80 _ _ _ _ ?_
    refine ⟨by omega, fun h1 => ?_, fun h1 => absurd rfl h1⟩
    exact ⟨trivial, by rw [zSh, if_pos (by omega)], rfl⟩
theorem c_Co_due {g : Nat} {sum : Int} (hg : g < 100) (hn : n ≤ 9) (hw : 0 ≤ who ∧ who ≤ 3) (ht : 0 ≤ ties ∧ ties ≤ 2) (hs : ∀ j : Nat, j < n → 0 ≤ ss j ∧ ss j ≤ 20) (hsum : 0 ≤ sum ∧ sum ≤ 20) :
    zMet m_Co_due [.inr (.inr 0), .inl g, .inl sum] (wCo ks ss n who ties) (fun v w => v = some (.inl (sum * zSh ss n who ties sum g (zFree ss n who))) ∧ w = wCo ks ss n who ties) := by
  have hfr := zFree_in ss n who
  refine zMet.of (own := RX0) rfl (by decide +kernel) tk_Co_due fok_Co cok_Co (Nat.le_of_ble_eq_true rfl) (fun G hG => ?_)
  refine hG.1 [] 80 _ _ _ _ ?_
  refine hG.2.1 (c_Co_freeGuest hn hw hs) yv_Co_freeGuest lk_Co_53 (by decide +kernel) rfl rfl [0, 1, 2] (by decide +kernel) rfl rfl rfl (Nat.le_of_ble_eq_true rfl) (fun v w2 hv hl2 => ?_)
  obtain ⟨rfl, rfl⟩ := hv
  refine hG.1 [] 80 _ _ _ _ ?_
  refine hG.2.1 (c_Co_share hg hn hw ht hs hsum (by omega)) yv_Co_share lk_Co_57 (by decide +kernel) rfl rfl [0, 1, 2] (by decide +kernel) rfl rfl rfl (Nat.le_of_ble_eq_true rfl) (fun v w2 hv hl2 => ?_)
  obtain ⟨rfl, rfl⟩ := hv
  refine hG.1 [] 80 _ _ _ _ ?_
  exact ⟨trivial, rfl, rfl⟩
theorem c_Co_payers {sum : Int} (hn : n ≤ 9) (hw : 0 ≤ who ∧ who ≤ 3) (ht : 0 ≤ ties ∧ ties ≤ 2) (hs : ∀ j : Nat, j < n → 0 ≤ ss j ∧ ss j ≤ 20) (hsum : 0 ≤ sum ∧ sum ≤ 20) :
    zMet m_Co_payers [.inr (.inr 0), .inl sum] (wCo ks ss n who ties) (fun v w => v = some (.inl (zMaskN (zPay ss n who ties sum) n : Int)) ∧ w = wCo ks ss n who ties) := by
  have hfr := zFree_in ss n who
  refine zMet.of (own := RX0) rfl (by decide +kernel) tk_Co_payers fok_Co cok_Co (Nat.le_of_ble_eq_true rfl) (fun G hG => ?_)
  refine hG.1 [] 80 _ _ _ _ ?_
  refine hG.2.1 (c_Co_freeGuest hn hw hs) yv_Co_freeGuest lk_Co_53 (by decide +kernel) rfl rfl [0, 1, 2] (by decide +kernel) rfl rfl rfl (Nat.le_of_ble_eq_true rfl) (fun v w2 hv hl2 => ?_)
  obtain ⟨rfl, rfl⟩ := hv
  refine hG.1 [10] 80 _ _ _ _ ?_
  refine z_up0 (n := n) (P := fun i : Nat => G 10 [(0, .inr (.inr 0)), (1, .inl sum), (2, .inl (zFree ss n who)), (3, .inl (zMaskN (zPay ss n who ties sum) i : Int)), (4, .inl (i : Int))] [] (wCo ks ss n who ties)) ?_ (fun i hi ih => ?_)
  · refine hG.1 [] 80 _ _ _ _ ?_
    refine ⟨by omega, fun h1 => ?_, fun h1 => absurd h1 (by omega)⟩
    exact ⟨trivial, rfl, rfl⟩
  · refine hG.1 [] 80 _ _ _ _ ?_
    refine ⟨by omega, fun h1 => absurd h1 (by omega), fun h1 => ?_⟩
    refine hG.2.1 (c_Co_share (show i < 100 by omega) hn hw ht hs hsum (by omega)) yv_Co_share lk_Co_57 (by decide +kernel) rfl rfl [0, 1, 2] (by decide +kernel) rfl rfl rfl (Nat.le_of_ble_eq_true rfl) (fun v w2 hv hl2 => ?_)
    obtain ⟨rfl, rfl⟩ := hv
    have hin := zSh_in ss n who ties sum i (zFree ss n who)
    have e : zMaskN (zPay ss n who ties sum) (i + 1) = zMaskN (zPay ss n who ties sum) i + (if zPay ss n who ties sum i = true then 2 ^ i else 0) := rfl
    have hp : zPay ss n who ties sum i = decide (0 < zSh ss n who ties sum i (zFree ss n who)) := rfl
    refine hG.1 [10] 80 _ _ _ _ ?_
    refine ⟨by omega, fun h2 => ?_, fun h2 => ?_⟩
    · rw [e, hp, if_neg (by simpa using h2)] at ih
      exact ih
    · rw [e, hp, if_pos (by simpa using h2), ← z_bits1 i (by omega) _ (zMaskN_lt _ i)] at ih
      exact ⟨by omega, ih⟩
theorem c_Co_slipAlone {g : Nat} {sum mean : Int} (hg : g < n) (hn : n ≤ 9) (hk : 0 ≤ ks g ∧ ks g ≤ 3) :
    zMet m_Co_slipAlone [.inr (.inr 0), .inl g, .inl sum, .inl mean] (wCo ks ss n who ties) (fun v w => v = some (.inl (zAlone ks ss sum mean g)) ∧ w = wCo ks ss n who ties) := by
  refine zMet.of (own := RX0) rfl (by decide +kernel) tk_Co_slipAlone fok_Co cok_Co (Nat.le_of_ble_eq_true rfl) (fun G hG => ?_)
  refine hG.1 [] 80 _ _ _ _ ?_
  refine hG.2.1 (c_Co_kindOf hg hn) yv_Co_kindOf lk_Co_32 (by decide +kernel) rfl rfl [0, 1, 2] (by decide +kernel) rfl rfl rfl (Nat.le_of_ble_eq_true rfl) (fun v w2 hv hl2 => ?_)
  obtain ⟨rfl, rfl⟩ := hv
  refine hG.1 [] 80 _ _ _ _ ?_
  refine ⟨by omega, fun h1 => ?_, fun h1 => ?_, fun h1 => ?_, fun h1 => ?_, trivial⟩
  · refine hG.2.1 (c_Co_slipOf hg hn) yv_Co_slipOf lk_Co_50 (by decide +kernel) rfl rfl [0, 1, 2] (by decide +kernel) rfl rfl rfl (Nat.le_of_ble_eq_true rfl) (fun v w2 hv hl2 => ?_)
    obtain ⟨rfl, rfl⟩ := hv
    refine hG.1 [] 80 _ _ _ _ ?_
    exact ⟨trivial, by rw [zAlone, if_neg (by omega), if_neg (by omega), if_neg (by omega)], rfl⟩
  · exact ⟨trivial, by rw [zAlone, if_pos h1], rfl⟩
  · exact ⟨trivial, by rw [zAlone, if_neg (by omega), if_pos (by omega)], rfl⟩
  · exact ⟨trivial, by rw [zAlone, if_neg (by omega), if_neg (by omega), if_pos (by omega)], rfl⟩
theorem c_Co_writeAlone {sum mean : Int} (hn : n ≤ 9) (hk : ∀ j : Nat, j < n → 0 ≤ ks j ∧ ks j ≤ 3) (hs : ∀ j : Nat, j < n → 0 ≤ ss j ∧ ss j ≤ 20) (hsum : 0 ≤ sum ∧ sum ≤ 20) (hm : 0 ≤ mean ∧ mean ≤ 20) :
    zMet m_Co_writeAlone [.inr (.inr 0), .inl sum, .inl mean] (wCo ks ss n who ties) (fun v w => v = some (.inl (zChgN ks ss sum mean n : Int)) ∧ w = wCo ks (zWr ks ss sum mean n) n who ties) := by
  refine zMet.of (own := RX0) rfl (by decide +kernel) tk_Co_writeAlone fok_Co cok_Co (Nat.le_of_ble_eq_true rfl) (fun G hG => ?_)
  refine hG.1 [5] 80 _ _ _ _ ?_
  suffices L : G 5 [(0, .inr (.inr 0)), (1, .inl sum), (2, .inl mean), (3, .inl ((0 : Nat) : Int)), (4, .inl ((0 : Nat) : Int))] [] (wCo ks (zWr ks ss sum mean 0) n who ties) by
    rw [zWr_0] at L; exact L
  refine z_up0 (n := n) (P := fun i : Nat => G 5 [(0, .inr (.inr 0)), (1, .inl sum), (2, .inl mean), (3, .inl (zChgN ks ss sum mean i : Int)), (4, .inl (i : Int))] [] (wCo ks (zWr ks ss sum mean i) n who ties)) ?_ (fun i hi ih => ?_)
  · refine hG.1 [] 80 _ _ _ _ ?_
    refine ⟨by omega, fun h1 => ?_, fun h1 => absurd h1 (by omega)⟩
    exact ⟨trivial, rfl, rfl⟩
  · refine hG.1 [] 80 _ _ _ _ ?_
    refine ⟨by omega, fun h1 => absurd h1 (by omega), fun h1 => ?_⟩
    refine hG.2.1 (c_Co_slipAlone hi hn (hk i hi)) yv_Co_slipAlone lk_Co_46 (by decide +kernel) rfl rfl [0, 1, 2] (by decide +kernel) rfl rfl rfl (Nat.le_of_ble_eq_true rfl) (fun v w2 hv hl2 => ?_)
    obtain ⟨rfl, rfl⟩ := hv
    have ea : zAlone ks (zWr ks ss sum mean i) sum mean i = zAlone ks ss sum mean i := by
      unfold zAlone; rw [zWr_at]
    rw [ea]
    have hki := hk i hi
    have hsi := hs i hi
    have hin : 0 ≤ zAlone ks ss sum mean i ∧ zAlone ks ss sum mean i ≤ 20 := by
      unfold zAlone; repeat' split
      all_goals omega
    have e : zChgN ks ss sum mean (i + 1) = zChgN ks ss sum mean i + (if zAlone ks ss sum mean i = ss i then 0 else 1) := rfl
    have eat := zWr_at ks ss sum mean i
    refine hG.1 [5] 80 _ _ _ _ ?_
    refine ⟨by omega, by omega, fun h2 => ?_, fun h2 => ?_⟩
    · rw [eat] at h2
      rw [e, if_pos h2, ← zWr_keep h2] at ih
      exact hG.2.2.2.2.1 (fun q hq => List.mem_append_left _ hq) ih
    · rw [eat] at h2
      rw [e, if_neg h2, ← zWr_put] at ih
      exact ⟨by omega, hG.2.2.2.2.1 (fun q hq => List.mem_append_left _ hq) ih⟩
theorem c_Co_isBetween {g a b : Nat} (hg : g < n) (ha : a < n) (hb : b < n) (hn : n ≤ 9) (hs : ∀ j : Nat, j < n → 0 ≤ ss j ∧ ss j ≤ 20) :
    zMet m_Co_isBetween [.inr (.inr 0), .inl g, .inl a, .inl b] (wCo ks ss n who ties) (fun v w => z_bool ((ss a < ss g ∧ ss g < ss b) ∨ (ss b < ss g ∧ ss g < ss a)) v ∧ w = wCo ks ss n who ties) := by
  have h1 := hs g hg
  have h2 := hs a ha
  have h3 := hs b hb
  refine zMet.of (own := RX0) rfl (by decide +kernel) tk_Co_isBetween fok_Co cok_Co (Nat.le_of_ble_eq_true rfl) (fun G hG => ?_)
  refine hG.1 [] 80 _ _ _ _ ?_
  refine hG.2.1 (c_Co_slipOf hg hn) yv_Co_slipOf lk_Co_50 (by decide +kernel) rfl rfl [0, 1, 2] (by decide +kernel) rfl rfl rfl (Nat.le_of_ble_eq_true rfl) (fun v w2 hv hl2 => ?_)
  obtain ⟨rfl, rfl⟩ := hv
  refine hG.1 [] 80 _ _ _ _ ?_
  refine hG.2.1 (c_Co_slipOf ha hn) yv_Co_slipOf lk_Co_50 (by decide +kernel) rfl rfl [0, 1, 2] (by decide +kernel) rfl rfl rfl (Nat.le_of_ble_eq_true rfl) (fun v w2 hv hl2 => ?_)
  obtain ⟨rfl, rfl⟩ := hv
  refine hG.1 [] 80 _ _ _ _ ?_
  refine hG.2.1 (c_Co_slipOf hb hn) yv_Co_slipOf lk_Co_50 (by decide +kernel) rfl rfl [0, 1, 2] (by decide +kernel) rfl rfl rfl (Nat.le_of_ble_eq_true rfl) (fun v w2 hv hl2 => ?_)
  obtain ⟨rfl, rfl⟩ := hv
  refine hG.1 [] 80 _ _ _ _ ?_
  refine ⟨by omega, fun q1 => ?_, fun q1 => ?_⟩
  · refine ⟨by omega, fun q2 => ?_, fun q2 => ?_⟩
    · exact ⟨Or.inl rfl, Or.inr ⟨by omega, rfl⟩, rfl⟩
    · refine ⟨by omega, fun q3 => ?_, fun q3 => ?_⟩
      · exact ⟨Or.inl rfl, Or.inr ⟨by omega, rfl⟩, rfl⟩
      · exact ⟨Or.inr rfl, Or.inl ⟨by omega, rfl⟩, rfl⟩
  · refine ⟨by omega, fun q2 => ?_, fun q2 => ?_⟩
    · exact ⟨Or.inr rfl, Or.inl ⟨by omega, rfl⟩, rfl⟩
    · refine ⟨by omega, fun q3 => ?_, fun q3 => ?_⟩
      · exact ⟨Or.inl rfl, Or.inr ⟨by omega, rfl⟩, rfl⟩
      · refine ⟨by omega, fun q4 => ?_, fun q4 => ?_⟩
        · exact ⟨Or.inl rfl, Or.inr ⟨by omega, rfl⟩, rfl⟩
        · exact ⟨Or.inr rfl, Or.inl ⟨by omega, rfl⟩, rfl⟩
variable {ks' ss' : Int → Int} {n' : Nat} {who' ties' : Int}
theorem c_Co_seatAll : zMet m_Co_seatAll [.inr (.inr 0), .inr (.inr 3)] (wCo2 ks ss n who ties ks' ss' n' who' ties') (fun v w => v = none ∧ w = wCo2 (z_cpy ks' ks 9) (z_cpy ss' ss 9) n' who ties ks' ss' n' who' ties') := by
  refine zMet.of (own := RX0) rfl (by decide +kernel) tk_Co_seatAll fok_Co cok_Co (Nat.le_of_ble_eq_true rfl) (fun G hG => ?_)
  refine hG.1 [] 80 _ _ _ _ ?_
  refine hG.2.2.2.1 lk_Co_36 ⟨by decide, by decide⟩ rfl rfl (by omega) rfl (Nat.le_of_ble_eq_true rfl) ?_
  refine hG.1 [] 80 _ _ _ _ ?_
  refine hG.2.2.2.1 lk_Co_36 ⟨by decide, by decide⟩ rfl rfl (by omega) rfl (Nat.le_of_ble_eq_true rfl) ?_
  refine hG.1 [] 80 _ _ _ _ ?_
  exact ⟨trivial, rfl, rfl⟩
theorem c_Co_copyFrom : zMet m_Co_copyFrom [.inr (.inr 0), .inr (.inr 3)] (wCo2 ks ss n who ties ks' ss' n' who' ties') (fun v w => v = none ∧ w = wCo2 (z_cpy ks' ks 9) (z_cpy ss' ss 9) n' who' ties' ks' ss' n' who' ties') := by
  refine zMet.of (own := RX0) rfl (by decide +kernel) tk_Co_copyFrom fok_Co cok_Co (Nat.le_of_ble_eq_true rfl) (fun G hG => ?_)
  refine hG.1 [] 80 _ _ _ _ ?_
  refine hG.2.1 (c_Co_seatAll ) yv_Co_seatAll lk_Co_42 (by decide +kernel) rfl rfl [0, 1, 2, 3, 4, 5] (by decide +kernel) rfl rfl rfl (Nat.le_of_ble_eq_true rfl) (fun v w2 hv hl2 => ?_)
  obtain ⟨rfl, rfl⟩ := hv
  refine hG.1 [] 80 _ _ _ _ ?_
  exact ⟨trivial, rfl, rfl⟩
end Co3
end
section
/-! SUPPER, SHEET -/
abbrev wSu (w : Int → Int) : zW := [.inl (3, [.inr (.inr 1)]), .inr (0, (21, .inl w))]
abbrev wSu2 (w w' : Int → Int) : zW := [.inl (3, [.inr (.inr 1)]), .inr (0, (21, .inl w)), .inl (3, [.inr (.inr 3)]), .inr (0, (21, .inl w'))]
def zFill (f : Int → Int) (i : Nat) : Int → Int := fun j => if 0 ≤ j ∧ j < (i : Int) then 0 else f j
theorem zFill_put (f : Int → Int) (i : Nat) : z_u (zFill f i) i 0 = zFill f (i + 1) := by
  funext j
  unfold z_u zFill
  by_cases h : j = (i : Int)
  · subst h; rw [if_pos rfl, if_pos (by omega)]
  · rw [if_neg h]
    by_cases h2 : 0 ≤ j ∧ j < (i : Int)
    · rw [if_pos h2, if_pos (by omega)]
    · rw [if_neg h2, if_neg (by omega)]
theorem zFill_0 (f : Int → Int) : zFill f 0 = f := by
  funext j; unfold zFill; rw [if_neg (by omega)]
def zSumN (f : Int → Int) : Nat → Int
  | 0 => 0
  | k + 1 => zSumN f k + f k
def zPosN (f : Int → Int) : Nat → Nat
  | 0 => 0
  | k + 1 => zPosN f k + (if 0 < f k then 1 else 0)
def zWeiN (f : Int → Int) : Nat → Int
  | 0 => 0
  | k + 1 => zWeiN f k + k * f k
theorem zSumN_in {f : Int → Int} : ∀ {n : Nat}, (∀ j : Nat, j < n → 0 ≤ f j ∧ f j ≤ 99) → 0 ≤ zSumN f n ∧ zSumN f n ≤ 99 * (n : Int)
  | 0, _ => by simp [zSumN]
  | n + 1, h => by
    have h1 := zSumN_in (n := n) (fun j hj => h j (by omega))
    have h2 := h n (by omega)
    unfold zSumN; omega
theorem zWeiN_in {f : Int → Int} : ∀ {n : Nat}, n ≤ 21 → (∀ j : Nat, j < n → 0 ≤ f j ∧ f j ≤ 99) → 0 ≤ zWeiN f n ∧ zWeiN f n ≤ 1980 * (n : Int)
  | 0, _, _ => by simp [zWeiN]
  | n + 1, hn, h => by
    have h1 := zWeiN_in (n := n) (by omega) (fun j hj => h j (by omega))
    have h2 := h n (by omega)
    have h3 : 0 ≤ (n : Int) * f n := Int.mul_nonneg (by omega) h2.1
    have h4 : (n : Int) * f n ≤ 20 * 99 := Int.mul_le_mul (by omega) h2.2 h2.1 (by omega)
    unfold zWeiN; omega
theorem zWeiN_sum {f : Int → Int} : ∀ {n : Nat}, n ≤ 21 → (∀ j : Nat, j < n → 0 ≤ f j ∧ f j ≤ 99) → zWeiN f n ≤ 20 * zSumN f n
  | 0, _, _ => by simp [zWeiN, zSumN]
  | n + 1, hn, h => by
    have h1 := zWeiN_sum (n := n) (by omega) (fun j hj => h j (by omega))
    have h2 := h n (by omega)
    have h4 : (n : Int) * f n ≤ 20 * f n := Int.mul_le_mul_of_nonneg_right (by omega) h2.1
    unfold zWeiN zSumN; omega
def zMean (w : Int → Int) : Int := if zSumN w 21 = 0 then 0 else zWeiN w 21 / zSumN w 21
theorem zMean_in {w : Int → Int} (hw : ∀ j : Nat, j < 21 → 0 ≤ w j ∧ w j ≤ 99) : 0 ≤ zMean w ∧ zMean w ≤ 20 := by
  have h1 := zSumN_in hw
  have h2 := zWeiN_in (Nat.le_refl 21) hw
  have h3 := zWeiN_sum (Nat.le_refl 21) hw
  unfold zMean; split
  · omega
  · exact ⟨Int.ediv_nonneg h2.1 h1.1, Int.ediv_le_of_le_mul (by omega) h3⟩
section Su
variable {w : Int → Int}
theorem c_Su_weightOf {x : Int} (h : 0 ≤ x ∧ x < 21) : zMet m_Su_weightOf [.inr (.inr 0), .inl x] (wSu w) (fun v w2 => v = some (.inl (w x)) ∧ w2 = wSu w) := by
  refine zMet.of (own := RX3) rfl (by decide +kernel) tk_Su_weightOf fok_Su cok_Su (Nat.le_of_ble_eq_true rfl) (fun G hG => ?_)
  refine hG.1 [] 80 _ _ _ _ ?_
  refine hG.2.2.1 (c_Fp_isSum (x := x) (by omega)) ys_Fp_isSum lk_Su_15 (by decide +kernel) rfl [] (by decide +kernel) rfl rfl rfl (Nat.le_of_ble_eq_true rfl) (fun v w2 hv hl2 => ?_)
  obtain ⟨⟨hc, rfl⟩ | ⟨hc, rfl⟩, rfl⟩ := hv
  · refine hG.1 [] 80 _ _ _ _ ?_
    refine ⟨by omega, fun h1 => absurd h1 (by omega), fun h1 => ?_⟩
    exact ⟨by omega, trivial, rfl, rfl⟩
  · exact absurd h hc
theorem c_Su_putWeight {x v0 : Int} (h : 0 ≤ x ∧ x < 21) : zMet m_Su_putWeight [.inr (.inr 0), .inl x, .inl v0] (wSu w) (fun v w2 => v = none ∧ w2 = wSu (z_u w x v0)) := by
  refine zMet.of (own := RX3) rfl (by decide +kernel) tk_Su_putWeight fok_Su cok_Su (Nat.le_of_ble_eq_true rfl) (fun G hG => ?_)
  refine hG.1 [] 80 _ _ _ _ ?_
  refine hG.2.2.1 (c_Fp_isSum (x := x) (by omega)) ys_Fp_isSum lk_Su_15 (by decide +kernel) rfl [] (by decide +kernel) rfl rfl rfl (Nat.le_of_ble_eq_true rfl) (fun v w2 hv hl2 => ?_)
  obtain ⟨⟨hc, rfl⟩ | ⟨hc, rfl⟩, rfl⟩ := hv
  · refine hG.1 [] 80 _ _ _ _ ?_
    refine ⟨by omega, fun h1 => absurd h1 (by omega), fun h1 => ?_⟩
    exact ⟨by omega, trivial, rfl, rfl⟩
  · exact absurd h hc
theorem c_Su_clear : zMet m_Su_clear [.inr (.inr 0)] (wSu w) (fun v w2 => v = none ∧ w2 = wSu (zFill w 21)) := by
  refine zMet.of (own := RX3) rfl (by decide +kernel) tk_Su_clear fok_Su cok_Su (Nat.le_of_ble_eq_true rfl) (fun G hG => ?_)
  refine hG.1 [2] 80 _ _ _ _ ?_
  suffices L : G 2 [(0, .inr (.inr 0)), (1, .inl ((0 : Nat) : Int))] [] (wSu (zFill w 0)) by
    rw [zFill_0] at L; exact L
  refine z_up0 (n := 21) (P := fun i : Nat => G 2 [(0, .inr (.inr 0)), (1, .inl (i : Int))] [] (wSu (zFill w i))) ?_ (fun i hi ih => ?_)
  · refine hG.1 [] 80 _ _ _ _ ?_
    refine ⟨by omega, fun h1 => ?_, fun h1 => absurd h1 (by omega)⟩
    exact ⟨trivial, rfl, rfl⟩
  · refine hG.1 [2] 80 _ _ _ _ ?_
    refine ⟨by omega, fun h1 => absurd h1 (by omega), fun h1 => ?_⟩
    rw [← zFill_put] at ih
    exact ⟨by omega, ih⟩
theorem c_Su_copyFrom {w' : Int → Int} : zMet m_Su_copyFrom [.inr (.inr 0), .inr (.inr 2)] (wSu2 w w') (fun v w2 => v = none ∧ w2 = wSu2 (z_cpy w' w 21) w') := by
  refine zMet.of (own := RX3) rfl (by decide +kernel) tk_Su_copyFrom fok_Su cok_Su (Nat.le_of_ble_eq_true rfl) (fun G hG => ?_)
  refine hG.1 [] 80 _ _ _ _ ?_
  refine hG.2.2.2.1 lk_Su_19 ⟨by decide, by decide⟩ rfl rfl (by omega) rfl (Nat.le_of_ble_eq_true rfl) ?_
  refine hG.1 [] 80 _ _ _ _ ?_
  exact ⟨trivial, rfl, rfl⟩
theorem c_Su_together : zMet m_Su_together [.inr (.inr 0)] (wSu w) (fun v w2 => v = some (.inl (zSumN w 21)) ∧ w2 = wSu w) := by
  refine zMet.of (own := RX3) rfl (by decide +kernel) tk_Su_together fok_Su cok_Su (Nat.le_of_ble_eq_true rfl) (fun G hG => ?_)
  refine hG.1 [4] 80 _ _ _ _ ?_
  refine z_up0 (n := 21) (P := fun i : Nat => G 4 [(0, .inr (.inr 0)), (1, .inl (zSumN w i)), (2, .inl (i : Int))] [] (wSu w)) ?_ (fun i hi ih => ?_)
  · refine hG.1 [] 80 _ _ _ _ ?_
    refine ⟨by omega, fun h1 => ?_, fun h1 => absurd h1 (by omega)⟩
    exact ⟨trivial, rfl, rfl⟩
  · refine hG.1 [4] 80 _ _ _ _ ?_
    refine ⟨by omega, fun h1 => absurd h1 (by omega), fun h1 => ?_⟩
    exact ⟨by omega, ih⟩
theorem c_Su_sumsOfWeight (hw : ∀ j : Nat, j < 21 → 0 ≤ w j ∧ w j ≤ 99) : zMet m_Su_sumsOfWeight [.inr (.inr 0)] (wSu w) (fun v w2 => v = some (.inl (zPosN w 21 : Int)) ∧ w2 = wSu w) := by
  refine zMet.of (own := RX3) rfl (by decide +kernel) tk_Su_sumsOfWeight fok_Su cok_Su (Nat.le_of_ble_eq_true rfl) (fun G hG => ?_)
  refine hG.1 [4] 80 _ _ _ _ ?_
  refine z_up0 (n := 21) (P := fun i : Nat => G 4 [(0, .inr (.inr 0)), (1, .inl (zPosN w i : Int)), (2, .inl (i : Int))] [] (wSu w)) ?_ (fun i hi ih => ?_)
  · refine hG.1 [] 80 _ _ _ _ ?_
    refine ⟨by omega, fun h1 => ?_, fun h1 => absurd h1 (by omega)⟩
    exact ⟨trivial, rfl, rfl⟩
  · have hwi := hw i hi
    have e : zPosN w (i + 1) = zPosN w i + (if 0 < w i then 1 else 0) := rfl
    refine hG.1 [4] 80 _ _ _ _ ?_
    refine ⟨by omega, fun h1 => absurd h1 (by omega), fun h1 => ?_⟩
    refine ⟨by omega, by omega, fun h2 => ?_, fun h2 => ?_⟩
    · rw [e, if_neg (by omega)] at ih
      exact ih
    · rw [e, if_pos h2] at ih
      exact ih
theorem c_Su_weighed : zMet m_Su_weighed [.inr (.inr 0)] (wSu w) (fun v w2 => v = some (.inl (zWeiN w 21)) ∧ w2 = wSu w) := by
  refine zMet.of (own := RX3) rfl (by decide +kernel) tk_Su_weighed fok_Su cok_Su (Nat.le_of_ble_eq_true rfl) (fun G hG => ?_)
  refine hG.1 [4] 80 _ _ _ _ ?_
  refine z_up0 (n := 21) (P := fun i : Nat => G 4 [(0, .inr (.inr 0)), (1, .inl (zWeiN w i)), (2, .inl (i : Int))] [] (wSu w)) ?_ (fun i hi ih => ?_)
  · refine hG.1 [] 80 _ _ _ _ ?_
    refine ⟨by omega, fun h1 => ?_, fun h1 => absurd h1 (by omega)⟩
    exact ⟨trivial, rfl, rfl⟩
  · refine hG.1 [4] 80 _ _ _ _ ?_
    refine ⟨by omega, fun h1 => absurd h1 (by omega), fun h1 => ?_⟩
    exact ⟨by omega, ih⟩
theorem c_Su_meanSum (hw : ∀ j : Nat, j < 21 → 0 ≤ w j ∧ w j ≤ 99) : zMet m_Su_meanSum [.inr (.inr 0)] (wSu w) (fun v w2 => v = some (.inl (zMean w)) ∧ w2 = wSu w) := by
  have h1 := zSumN_in hw
  have h2 := zWeiN_in (Nat.le_refl 21) hw
  refine zMet.of (own := RX3) rfl (by decide +kernel) tk_Su_meanSum fok_Su cok_Su (Nat.le_of_ble_eq_true rfl) (fun G hG => ?_)
  refine hG.1 [] 80 _ _ _ _ ?_
  refine hG.2.1 (c_Su_together ) yv_Su_together lk_Su_25 (by decide +kernel) rfl rfl [0, 1] (by decide +kernel) rfl rfl rfl (Nat.le_of_ble_eq_true rfl) (fun v w2 hv hl2 => ?_)
  obtain ⟨rfl, rfl⟩ := hv
  refine hG.1 [] 80 _ _ _ _ ?_
  refine ⟨by omega, fun h3 => ?_, fun h3 => ?_⟩
  · refine hG.2.1 (c_Su_weighed ) yv_Su_weighed lk_Su_29 (by decide +kernel) rfl rfl [0, 1] (by decide +kernel) rfl rfl rfl (Nat.le_of_ble_eq_true rfl) (fun v w2 hv hl2 => ?_)
    obtain ⟨rfl, rfl⟩ := hv
    refine hG.1 [] 80 _ _ _ _ ?_
    exact ⟨by omega, trivial, by rw [zMean, if_neg h3], rfl⟩
  · exact ⟨trivial, by rw [zMean, if_pos h3], rfl⟩
end Su
abbrev wSh (it : Int → Int) (lane size : Int) : zW := [.inl (2, [.inr (.inr 1), .inl lane, .inl size]), .inr (0, (24, .inr (.inl it)))]
def zNar (lane v : Int) : Int := if lane = 0 then v.bmod 65536 else if lane = 1 then v.bmod 4294967296 else v
def zRef (lane size asked fr n : Int) : Int := if size = -1 then -11 else if asked ≠ lane then -12 else if fr < 0 ∨ size - n < fr then -13 else 0
/-- the weights of a row together, -1 behind one that is none -/
def zWtN (it : Int → Int) (fr : Int) : Nat → Nat → Int → Int
  | _, 0, acc => acc
  | i, d + 1, acc => if it (fr + i) < 0 ∨ 99 < it (fr + i) then -1 else zWtN it fr (i + 1) d (acc + it (fr + i))
section Sh
variable {it : Int → Int} {lane size : Int}
theorem c_Sh_isMissing (hz : -1 ≤ size ∧ size ≤ 24) : zMet m_Sh_isMissing [.inr (.inr 0)] (wSh it lane size) (fun v w => z_bool (size = -1) v ∧ w = wSh it lane size) := by
  refine zMet.of (own := RX2) rfl (by decide +kernel) tk_Sh_isMissing fok_Sh cok_Sh (Nat.le_of_ble_eq_true rfl) (fun G hG => ?_)
  refine hG.1 [] 80 _ _ _ _ ?_
  refine ⟨by omega, fun h1 => ?_, fun h1 => ?_⟩
  · exact ⟨Or.inl rfl, Or.inr ⟨h1, rfl⟩, rfl⟩
  · exact ⟨Or.inr rfl, Or.inl ⟨h1, rfl⟩, rfl⟩
theorem c_Sh_size : zMet m_Sh_size [.inr (.inr 0)] (wSh it lane size) (fun v w => v = some (.inl size) ∧ w = wSh it lane size) := by
  refine zMet.of (own := RX2) rfl (by decide +kernel) tk_Sh_size fok_Sh cok_Sh (Nat.le_of_ble_eq_true rfl) (fun G hG => ?_)
  refine hG.1 [] 80 _ _ _ _ ?_
  exact ⟨trivial, rfl, rfl⟩
theorem c_Sh_end : zMet m_Sh_end [.inr (.inr 0)] (wSh it lane size) (fun v w => v = none ∧ w = wSh it lane (-1)) := by
  refine zMet.of (own := RX2) rfl (by decide +kernel) tk_Sh_end fok_Sh cok_Sh (Nat.le_of_ble_eq_true rfl) (fun G hG => ?_)
  refine hG.1 [] 80 _ _ _ _ ?_
  exact ⟨trivial, rfl, rfl⟩
theorem c_Sh_begin {l' n : Int} : zMet m_Sh_begin [.inr (.inr 0), .inl l', .inl n] (wSh it lane size) (fun v w => v = none ∧ w = wSh (zFill it 24) l' n) := by
  refine zMet.of (own := RX2) rfl (by decide +kernel) tk_Sh_begin fok_Sh cok_Sh (Nat.le_of_ble_eq_true rfl) (fun G hG => ?_)
  refine hG.1 [12] 80 _ _ _ _ ?_
  suffices L : G 12 [(0, .inr (.inr 0)), (1, .inl l'), (2, .inl n), (3, .inl ((0 : Nat) : Int))] [] (wSh (zFill it 0) l' n) by
    rw [zFill_0] at L; exact L
  refine z_up0 (n := 24) (P := fun i : Nat => G 12 [(0, .inr (.inr 0)), (1, .inl l'), (2, .inl n), (3, .inl (i : Int))] [] (wSh (zFill it i) l' n)) ?_ (fun i hi ih => ?_)
  · refine hG.1 [] 80 _ _ _ _ ?_
    refine ⟨by omega, fun h1 => ?_, fun h1 => absurd h1 (by omega)⟩
    exact ⟨trivial, rfl, rfl⟩
  · refine hG.1 [12] 80 _ _ _ _ ?_
    refine ⟨by omega, fun h1 => absurd h1 (by omega), fun h1 => ?_⟩
    rw [← zFill_put] at ih
    exact ⟨by omega, ih⟩
theorem c_Sh_refusal {a f n : Int} (hz : -1 ≤ size ∧ size ≤ 24) (hl : 0 ≤ lane ∧ lane ≤ 2) (ha : -2147483648 ≤ a ∧ a ≤ 2147483647) (hf : -2147483648 ≤ f ∧ f ≤ 2147483647) (hn : 0 ≤ n ∧ n ≤ 1000) :
    zMet m_Sh_refusal [.inr (.inr 0), .inl a, .inl f, .inl n] (wSh it lane size) (fun v w => v = some (.inl (zRef lane size a f n)) ∧ w = wSh it lane size) := by
  refine zMet.of (own := RX2) rfl (by decide +kernel) tk_Sh_refusal fok_Sh cok_Sh (Nat.le_of_ble_eq_true rfl) (fun G hG => ?_)
  refine hG.1 [] 80 _ _ _ _ ?_
  refine hG.2.1 (c_Sh_isMissing hz) yv_Sh_isMissing lk_Sh_22 (by decide +kernel) rfl rfl [0, 1] (by decide +kernel) rfl rfl rfl (Nat.le_of_ble_eq_true rfl) (fun v w2 hv hl2 => ?_)
  obtain ⟨⟨hc, rfl⟩ | ⟨hc, rfl⟩, rfl⟩ := hv
  · refine hG.1 [] 80 _ _ _ _ ?_
    refine ⟨by omega, fun h1 => absurd h1 (by omega), fun h1 => ?_⟩
    exact ⟨trivial, by rw [zRef, if_pos hc], rfl⟩
  · refine hG.1 [] 80 _ _ _ _ ?_
    refine ⟨by omega, fun h1 => ?_, fun h1 => absurd rfl h1⟩
    refine ⟨by omega, fun h2 => ?_, fun h2 => ?_⟩
    · refine ⟨by omega, fun h3 => ?_, fun h3 => ?_⟩
      · exact ⟨trivial, by rw [zRef, if_neg hc, if_neg (by omega), if_pos (by omega)], rfl⟩
      · refine ⟨by omega, fun h4 => ?_, fun h4 => ?_⟩
        · exact ⟨trivial, by rw [zRef, if_neg hc, if_neg (by omega), if_neg (by omega)], rfl⟩
        · exact ⟨trivial, by rw [zRef, if_neg hc, if_neg (by omega), if_pos (by omega)], rfl⟩
    · exact ⟨trivial, by rw [zRef, if_neg hc, if_pos (by omega)], rfl⟩
theorem c_Sh_itemAt {i : Int} (hz : size ≤ 24) (hi : 0 ≤ i ∧ i < size) : zMet m_Sh_itemAt [.inr (.inr 0), .inl i] (wSh it lane size) (fun v w => v = some (.inr (.inl (it i))) ∧ w = wSh it lane size) := by
  refine zMet.of (own := RX2) rfl (by decide +kernel) tk_Sh_itemAt fok_Sh cok_Sh (Nat.le_of_ble_eq_true rfl) (fun G hG => ?_)
  refine hG.1 [] 80 _ _ _ _ ?_
  refine ⟨by omega, fun h1 => absurd h1 (by omega), fun h1 => ?_⟩
  refine ⟨by omega, fun h2 => absurd h2 (by omega), fun h2 => ?_⟩
  exact ⟨by omega, trivial, rfl, rfl⟩
theorem c_Sh_narrowed {v0 : Int} (hl : 0 ≤ lane ∧ lane ≤ 2) : zMet m_Sh_narrowed [.inr (.inr 0), .inr (.inl v0)] (wSh it lane size) (fun v w => v = some (.inr (.inl (zNar lane v0))) ∧ w = wSh it lane size) := by
  refine zMet.of (own := RX2) rfl (by decide +kernel) tk_Sh_narrowed fok_Sh cok_Sh (Nat.le_of_ble_eq_true rfl) (fun G hG => ?_)
  refine hG.1 [] 80 _ _ _ _ ?_
  refine ⟨by omega, fun h1 => ?_, fun h1 => ?_⟩
  · refine ⟨by omega, fun h2 => ?_, fun h2 => ?_⟩
    · exact ⟨trivial, by rw [zNar, if_neg h1, if_neg h2], rfl⟩
    · refine Or.inr ⟨⟨by have := Int.le_bmod (x := v0) (m := 4294967296) (by omega); omega, by have := Int.bmod_lt (x := v0) (m := 4294967296) (by omega); omega⟩, ?_⟩
      exact ⟨trivial, by rw [zNar, if_neg h1, if_pos h2], rfl⟩
  · refine Or.inl ⟨⟨by have := Int.le_bmod (x := v0) (m := 65536) (by omega); omega, by have := Int.bmod_lt (x := v0) (m := 65536) (by omega); omega⟩, ?_⟩
    exact ⟨trivial, by rw [zNar, if_pos h1], rfl⟩
theorem c_Sh_put {i v0 : Int} (hz : size ≤ 24) (hl : 0 ≤ lane ∧ lane ≤ 2) (hi : 0 ≤ i ∧ i < size) : zMet m_Sh_put [.inr (.inr 0), .inl i, .inr (.inl v0)] (wSh it lane size) (fun v w => v = none ∧ w = wSh (z_u it i (zNar lane v0)) lane size) := by
  refine zMet.of (own := RX2) rfl (by decide +kernel) tk_Sh_put fok_Sh cok_Sh (Nat.le_of_ble_eq_true rfl) (fun G hG => ?_)
  refine hG.1 [] 80 _ _ _ _ ?_
  refine ⟨by omega, fun h1 => absurd h1 (by omega), fun h1 => ?_⟩
  refine ⟨by omega, fun h2 => absurd h2 (by omega), fun h2 => ?_⟩
  refine hG.2.1 (c_Sh_narrowed hl) yv_Sh_narrowed lk_Sh_26 (by decide +kernel) rfl rfl [0, 1] (by decide +kernel) rfl rfl rfl (Nat.le_of_ble_eq_true rfl) (fun v w2 hv hl2 => ?_)
  obtain ⟨rfl, rfl⟩ := hv
  refine hG.1 [] 80 _ _ _ _ ?_
  exact ⟨by omega, trivial, rfl, rfl⟩
theorem c_Sh_weightsTogether {f : Int} {n : Nat} (hz : size ≤ 24) (hf : 0 ≤ f ∧ f + n ≤ size) (hq : ∀ j : Int, -9223372036854775808 ≤ it j ∧ it j ≤ 9223372036854775807) :
    zMet m_Sh_weightsTogether [.inr (.inr 0), .inl f, .inl n] (wSh it lane size) (fun v w => v = some (.inr (.inl (zWtN it f 0 n 0))) ∧ w = wSh it lane size) := by
  refine zMet.of (own := RX2) rfl (by decide +kernel) tk_Sh_weightsTogether fok_Sh cok_Sh (Nat.le_of_ble_eq_true rfl) (fun G hG => ?_)
  refine hG.1 [5] 80 _ _ _ _ ?_
  have key : ∀ d i : Nat, i + d = n → ∀ acc : Int, zWtN it f i d acc = zWtN it f 0 n 0 → G 5 [(0, .inr (.inr 0)), (1, .inl f), (2, .inl (n : Int)), (3, .inr (.inl acc)), (5, .inl (i : Int))] [] (wSh it lane size) := by
    intro d
    induction d with
    | zero =>
      intro i hi acc he
      refine hG.1 [] 80 _ _ _ _ ?_
      refine ⟨by omega, fun h1 => ?_, fun h1 => absurd h1 (by omega)⟩
      exact ⟨trivial, by rw [← he]; rfl, rfl⟩
    | succ d ih =>
      intro i hi acc he
      have hqi := hq (f + i)
      refine hG.1 [] 80 _ _ _ _ ?_
      refine ⟨by omega, fun h1 => absurd h1 (by omega), fun h1 => ?_⟩
      refine hG.2.1 (c_Sh_itemAt (i := f + i) hz (by omega)) yv_Sh_itemAt lk_Sh_30 (by decide +kernel) rfl rfl [0, 1] (by decide +kernel) rfl rfl rfl (Nat.le_of_ble_eq_true rfl) (fun v w2 hv hl2 => ?_)
      obtain ⟨rfl, rfl⟩ := hv
      have he2 : (if it (f + i) < 0 ∨ 99 < it (f + i) then -1 else zWtN it f (i + 1) d (acc + it (f + i))) = zWtN it f 0 n 0 := he
      refine hG.1 [5] 80 _ _ _ _ ?_
      refine ⟨by omega, fun h2 => ?_, fun h2 => ?_⟩
      · exact ⟨trivial, by rw [← he2, if_pos (by omega)], rfl⟩
      · refine ⟨by omega, fun h3 => ?_, fun h3 => ?_⟩
        · rw [if_neg (by omega)] at he2
          exact hG.2.2.2.2.1 (fun q hq => List.mem_append_left _ hq) (ih (i + 1) (by omega) _ he2)
        · exact ⟨trivial, by rw [← he2, if_pos (by omega)], rfl⟩
  exact key n 0 (by omega) 0 rfl
end Sh
end
section
/-! THE TAPE of the class -/
abbrev wTp (b : Int → Int) (n p : Nat) (fl : Int) : zW := [.inl (5, [.inr (.inr 1), .inl (n : Int), .inl (p : Int), .inl fl]), .inr (0, (80, .inl b))]
abbrev wTpSu (b : Int → Int) (n p : Nat) (fl : Int) (w : Int → Int) : zW := [.inl (5, [.inr (.inr 1), .inl (n : Int), .inl (p : Int), .inl fl]), .inr (0, (80, .inl b)), .inl (3, [.inr (.inr 3)]), .inr (0, (21, .inl w))]
abbrev wTpCo (b : Int → Int) (n p : Nat) (fl : Int) (ks ss : Int → Int) (m : Nat) (who ties : Int) : zW := [.inl (5, [.inr (.inr 1), .inl (n : Int), .inl (p : Int), .inl fl]), .inr (0, (80, .inl b)), .inl (0, [.inr (.inr 3), .inr (.inr 4), .inl (m : Int), .inl who, .inl ties]), .inr (0, (9, .inl ks)), .inr (0, (9, .inl ss))]
def zScan (c : Int → Bool) (b : Int → Int) : Nat → Nat → Nat
  | 0, p => p
  | d + 1, p => if c (b p) = true then zScan c b d (p + 1) else p
theorem zScan_step {c : Int → Bool} {b : Int → Int} {n p : Nat} (h : p < n) (hc : c (b p) = true) : zScan c b (n - p) p = zScan c b (n - (p + 1)) (p + 1) := by
  rw [show n - p = (n - (p + 1)) + 1 by omega]
  show (if c (b p) = true then _ else _) = _
  rw [if_pos hc]
theorem zScan_stop {c : Int → Bool} {b : Int → Int} {n p : Nat} (h : ¬ (p < n ∧ c (b p) = true)) : zScan c b (n - p) p = p := by
  cases hd : n - p with
  | zero => rfl
  | succ d =>
    show (if c (b p) = true then _ else _) = _
    rw [if_neg (fun q => h ⟨by omega, q⟩)]
theorem zScan_in {c : Int → Bool} {b : Int → Int} : ∀ d p, p ≤ zScan c b d p ∧ zScan c b d p ≤ p + d
  | 0, p => by unfold zScan; omega
  | d + 1, p => by
    have := zScan_in (c := c) (b := b) d (p + 1)
    unfold zScan; split <;> omega
theorem zScan_end {c : Int → Bool} {b : Int → Int} : ∀ d p, zScan c b d p < p + d → c (b (zScan c b d p)) = false
  | 0, p, h => by unfold zScan at h; omega
  | d + 1, p, h => by
    unfold zScan at h ⊢
    split at h
    · rename_i hc; rw [if_pos hc]; exact zScan_end d (p + 1) (by omega)
    · rename_i hc; rw [if_neg hc]; simpa using hc
def zSk (b : Int → Int) (n p : Nat) : Nat := zScan (fun x => decide (x = 32)) b (n - p) p
def zDg (b : Int → Int) (n p : Nat) : Nat := zScan (fun x => decide (48 ≤ x ∧ x ≤ 57)) b (n - p) p
theorem zSk_in {b : Int → Int} {n p : Nat} (h : p ≤ n) : p ≤ zSk b n p ∧ zSk b n p ≤ n := by
  have := zScan_in (c := fun x => decide (x = 32)) (b := b) (n - p) p
  unfold zSk; omega
theorem zDg_in {b : Int → Int} {n p : Nat} (h : p ≤ n) : p ≤ zDg b n p ∧ zDg b n p ≤ n := by
  have := zScan_in (c := fun x => decide (48 ≤ x ∧ x ≤ 57)) (b := b) (n - p) p
  unfold zDg; omega
theorem zSk_end {b : Int → Int} {n p : Nat} (h : p ≤ n) (h2 : zSk b n p < n) : b (zSk b n p) ≠ 32 := by
  have := zScan_end (c := fun x => decide (x = 32)) (b := b) (n - p) p (by unfold zSk at h2; omega)
  intro q
  exact absurd this (by unfold zSk at q; simp [q])
theorem zSk_id {b : Int → Int} {n p : Nat} (h : p ≤ n) : zSk b n (zSk b n p) = zSk b n p := by
  have h0 := zSk_in (b := b) h
  generalize hq : zSk b n p = q at h0
  show zScan _ b (n - q) q = q
  refine zScan_stop (fun z => ?_)
  have := zSk_end (b := b) h (by rw [hq]; exact z.1)
  rw [hq] at this
  exact this (by simpa using z.2)
def zNmS (b : Int → Int) : Nat → Nat → Int → Int
  | 0, _, acc => acc
  | d + 1, p, acc => if 48 ≤ b p ∧ b p ≤ 57 then zNmS b d (p + 1) (if 10 * acc + b p - 48 ≤ 1000 then 10 * acc + b p - 48 else 1000) else acc
def zNum (b : Int → Int) (n p : Nat) : Int := zNmS b (n - p) p 0
def zFl (fl : Int) (x : Nat) : Int := if fl = 0 then -20 - (x : Int) else fl
abbrev zBadNum (b : Int → Int) (n p : Nat) (lo hi : Int) : Prop := zDg b n p = p ∨ zNum b n p < lo ∨ hi < zNum b n p
def zNx (b : Int → Int) (n q : Nat) : Int := if q < n then b q else -1
theorem zNmS_in (b : Int → Int) : ∀ d p acc, 0 ≤ acc ∧ acc ≤ 1000 → 0 ≤ zNmS b d p acc ∧ zNmS b d p acc ≤ 1000
  | 0, p, acc, h => h
  | d + 1, p, acc, h => by
    unfold zNmS; split
    · exact zNmS_in b d (p + 1) _ (by split <;> omega)
    · exact h
theorem zNum_in (b : Int → Int) (n p : Nat) : 0 ≤ zNum b n p ∧ zNum b n p ≤ 1000 := zNmS_in b _ _ _ (by omega)
theorem c_Tp_isFigure {x : Int} (h : -2147483648 ≤ x ∧ x ≤ 2147483647) : zMet m_Tp_isFigure [.inl x] [] (fun v w => z_bool (48 ≤ x ∧ x ≤ 57) v ∧ w = []) := by
  refine zMet.of (own := RX5) rfl (by decide +kernel) tk_Tp_isFigure fok_Tp cok_Tp (Nat.le_of_ble_eq_true rfl) (fun G hG => ?_)
  refine hG.1 [] 80 _ _ _ _ ?_
  refine ⟨by omega, fun h1 => ?_, fun h1 => ?_⟩
  · exact ⟨Or.inl rfl, Or.inr ⟨by omega, rfl⟩, rfl⟩
  · refine ⟨by omega, fun h2 => ?_, fun h2 => ?_⟩
    · exact ⟨Or.inl rfl, Or.inr ⟨by omega, rfl⟩, rfl⟩
    · exact ⟨Or.inr rfl, Or.inl ⟨by omega, rfl⟩, rfl⟩
def zKind (x : Int) : Int := if x = 102 then 1 else if x = 107 then 3 else if x = 110 then 2 else if x = 115 then 0 else -1
theorem c_Tp_kindBy {x : Int} (h : -2147483648 ≤ x ∧ x ≤ 2147483647) : zMet m_Tp_kindBy [.inl x] [] (fun v w => v = some (.inl (zKind x)) ∧ w = []) := by
  refine zMet.of (own := RX5) rfl (by decide +kernel) tk_Tp_kindBy fok_Tp cok_Tp (Nat.le_of_ble_eq_true rfl) (fun G hG => ?_)
  refine hG.1 [] 80 _ _ _ _ ?_
  refine ⟨by omega, fun h1 => ?_, fun h1 => ⟨fun h2 => ?_, fun h2 => ⟨fun h3 => ?_, fun h3 => ⟨fun h4 => ?_, fun h4 => ?_⟩⟩⟩⟩
  · exact ⟨trivial, by rw [zKind, if_pos h1], rfl⟩
  · exact ⟨trivial, by rw [zKind, if_neg h1, if_pos h2], rfl⟩
  · exact ⟨trivial, by rw [zKind, if_neg h1, if_neg h2, if_pos h3], rfl⟩
  · exact ⟨trivial, by rw [zKind, if_neg h1, if_neg h2, if_neg h3, if_pos h4], rfl⟩
  · exact ⟨trivial, by rw [zKind, if_neg h1, if_neg h2, if_neg h3, if_neg h4], rfl⟩
section Tp
variable {b : Int → Int} {n p : Nat} {fl : Int}
theorem c_Tp_size : zMet m_Tp_size [.inr (.inr 0)] (wTp b n p fl) (fun v w => v = some (.inl (n : Int)) ∧ w = wTp b n p fl) := by
  refine zMet.of (own := RX5) rfl (by decide +kernel) tk_Tp_size fok_Tp cok_Tp (Nat.le_of_ble_eq_true rfl) (fun G hG => ?_)
  refine hG.1 [] 80 _ _ _ _ ?_
  exact ⟨trivial, rfl, rfl⟩
theorem c_Tp_append {x : Int} (hn : n < 80) : zMet m_Tp_append [.inr (.inr 0), .inl x] (wTp b n p fl) (fun v w => v = none ∧ w = wTp (z_u b n x) (n + 1) p fl) := by
  refine zMet.of (own := RX5) rfl (by decide +kernel) tk_Tp_append fok_Tp cok_Tp (Nat.le_of_ble_eq_true rfl) (fun G hG => ?_)
  refine hG.1 [] 80 _ _ _ _ ?_
  refine ⟨by omega, fun h1 => absurd h1 (by omega), fun h1 => ?_⟩
  exact ⟨by omega, trivial, rfl, rfl⟩
theorem c_Tp_begin : zMet m_Tp_begin [.inr (.inr 0)] (wTp b n p fl) (fun v w => v = none ∧ w = wTp b n 0 0) := by
  refine zMet.of (own := RX5) rfl (by decide +kernel) tk_Tp_begin fok_Tp cok_Tp (Nat.le_of_ble_eq_true rfl) (fun G hG => ?_)
  refine hG.1 [] 80 _ _ _ _ ?_
  exact ⟨trivial, rfl, rfl⟩
theorem c_Tp_faultAt {x : Nat} (hf : -1000 ≤ fl ∧ fl ≤ 0) : zMet m_Tp_faultAt [.inr (.inr 0), .inl x] (wTp b n p fl) (fun v w => v = none ∧ w = wTp b n p (zFl fl x)) := by
  refine zMet.of (own := RX5) rfl (by decide +kernel) tk_Tp_faultAt fok_Tp cok_Tp (Nat.le_of_ble_eq_true rfl) (fun G hG => ?_)
  refine hG.1 [] 80 _ _ _ _ ?_
  refine ⟨by omega, fun h1 => ?_, fun h1 => ?_⟩
  · exact ⟨trivial, rfl, by rw [zFl, if_neg h1]⟩
  · exact ⟨trivial, rfl, by rw [zFl, if_pos h1]; rfl⟩
theorem c_Tp_skipBlanks (hn : n ≤ 80) (hp : p ≤ n) (hb : ∀ j : Nat, j < n → 32 ≤ b j ∧ b j ≤ 126) : zMet m_Tp_skipBlanks [.inr (.inr 0)] (wTp b n p fl) (fun v w => v = none ∧ w = wTp b n (zSk b n p) fl) := by
  refine zMet.of (own := RX5) rfl (by decide +kernel) tk_Tp_skipBlanks fok_Tp cok_Tp (Nat.le_of_ble_eq_true rfl) (fun G hG => ?_)
  have key : ∀ d q : Nat, q + d = n → zSk b n q = zSk b n p → G 0 [(0, .inr (.inr 0))] [] (wTp b n q fl) := by
    intro d
    induction d with
    | zero =>
      intro q hq he
      have : zSk b n q = q := zScan_stop (by omega)
      refine hG.1 [0] 80 _ _ _ _ ?_
      refine ⟨by omega, fun h1 => ?_, fun h1 => absurd h1 (by omega)⟩
      exact ⟨trivial, rfl, by rw [← he, this]⟩
    | succ d ih =>
      intro q hq he
      have hbq := hb q (by omega)
      refine hG.1 [0] 80 _ _ _ _ ?_
      refine ⟨by omega, fun h1 => absurd h1 (by omega), fun h1 => ?_⟩
      refine ⟨by omega, by omega, fun h2 => ?_, fun h2 => ?_⟩
      · have : zSk b n q = q := zScan_stop (fun z => h2 (by simpa using z.2))
        exact ⟨trivial, rfl, by rw [← he, this]⟩
      · have : zSk b n q = zSk b n (q + 1) := zScan_step (by omega) (by simpa using h2)
        exact ih (q + 1) (by omega) (by rw [← this]; exact he)
  exact key (n - p) p (by omega) rfl
theorem c_Tp_next (hn : n ≤ 80) (hp : p ≤ n) (hb : ∀ j : Nat, j < n → 32 ≤ b j ∧ b j ≤ 126) : zMet m_Tp_next [.inr (.inr 0)] (wTp b n p fl) (fun v w => v = some (.inl (zNx b n (zSk b n p))) ∧ w = wTp b n (zSk b n p) fl) := by
  have h0 := zSk_in (b := b) hp
  refine zMet.of (own := RX5) rfl (by decide +kernel) tk_Tp_next fok_Tp cok_Tp (Nat.le_of_ble_eq_true rfl) (fun G hG => ?_)
  refine hG.1 [] 80 _ _ _ _ ?_
  refine hG.2.1 (c_Tp_skipBlanks hn hp hb) yv_Tp_skipBlanks lk_Tp_48 (by decide +kernel) rfl rfl [0, 1] (by decide +kernel) rfl rfl rfl (Nat.le_of_ble_eq_true rfl) (fun v w2 hv hl2 => ?_)
  obtain ⟨rfl, rfl⟩ := hv
  refine hG.1 [] 80 _ _ _ _ ?_
  refine ⟨by omega, fun h1 => ?_, fun h1 => ?_⟩
  · exact ⟨trivial, by rw [zNx, if_neg (by omega)], rfl⟩
  · exact ⟨by omega, trivial, by rw [zNx, if_pos (by omega)], rfl⟩
theorem zNx_in (hb : ∀ j : Nat, j < n → 32 ≤ b j ∧ b j ≤ 126) (q : Nat) : -1 ≤ zNx b n q ∧ zNx b n q ≤ 126 := by
  unfold zNx; split
  · have := hb q (by omega); omega
  · omega
theorem c_Tp_readKind (hn : n ≤ 80) (hp : p ≤ n) (hb : ∀ j : Nat, j < n → 32 ≤ b j ∧ b j ≤ 126) (hf : -1000 ≤ fl ∧ fl ≤ 0) : zMet m_Tp_readKind [.inr (.inr 0)] (wTp b n p fl) (fun v w => v = some (.inl (zKind (zNx b n (zSk b n p)))) ∧ w = (if zKind (zNx b n (zSk b n p)) < 0 then wTp b n (zSk b n p) (zFl fl (zSk b n p)) else wTp b n (zSk b n p + 1) fl)) := by
  have h0 := zSk_in (b := b) hp
  have h1 := zNx_in hb (zSk b n p)
  have hk : -1 ≤ zKind (zNx b n (zSk b n p)) ∧ zKind (zNx b n (zSk b n p)) ≤ 3 := by
    unfold zKind; repeat' split
    all_goals omega
  refine zMet.of (own := RX5) rfl (by decide +kernel) tk_Tp_readKind fok_Tp cok_Tp (Nat.le_of_ble_eq_true rfl) (fun G hG => ?_)
  refine hG.1 [] 80 _ _ _ _ ?_
  refine hG.2.1 (c_Tp_next hn hp hb) yv_Tp_next lk_Tp_74 (by decide +kernel) rfl rfl [0, 1] (by decide +kernel) rfl rfl rfl (Nat.le_of_ble_eq_true rfl) (fun v w2 hv hl2 => ?_)
  obtain ⟨rfl, rfl⟩ := hv
  refine hG.1 [] 80 _ _ _ _ ?_
  refine hG.2.2.1 (c_Tp_kindBy (x := zNx b n (zSk b n p)) (by omega)) ys_Tp_kindBy (Or.inl lk_Tp_84) (by decide +kernel) rfl [] (by decide +kernel) rfl rfl rfl (Nat.le_of_ble_eq_true rfl) (fun v w2 hv hl2 => ?_)
  obtain ⟨rfl, rfl⟩ := hv
  refine hG.1 [] 80 _ _ _ _ ?_
  refine ⟨by omega, fun h2 => ?_, fun h2 => ?_⟩
  · exact ⟨trivial, rfl, by rw [if_neg (by omega)]; rfl⟩
  · refine hG.2.1 (c_Tp_faultAt hf) yv_Tp_faultAt lk_Tp_59 (by decide +kernel) rfl rfl [0, 1] (by decide +kernel) rfl rfl rfl (Nat.le_of_ble_eq_true rfl) (fun v w2 hv hl2 => ?_)
    obtain ⟨rfl, rfl⟩ := hv
    refine hG.1 [] 80 _ _ _ _ ?_
    exact ⟨trivial, rfl, by rw [if_pos h2]; rfl⟩
theorem c_Tp_readSign {x : Int} (hn : n ≤ 80) (hp : p ≤ n) (hb : ∀ j : Nat, j < n → 32 ≤ b j ∧ b j ≤ 126) (hf : -1000 ≤ fl ∧ fl ≤ 0) (hx : 0 ≤ x ∧ x ≤ 1000) : zMet m_Tp_readSign [.inr (.inr 0), .inl x] (wTp b n p fl) (fun v w => v = none ∧ w = (if zNx b n (zSk b n p) = x then wTp b n (zSk b n p + 1) fl else wTp b n (zSk b n p) (zFl fl (zSk b n p)))) := by
  have h0 := zSk_in (b := b) hp
  have h1 := zNx_in hb (zSk b n p)
  refine zMet.of (own := RX5) rfl (by decide +kernel) tk_Tp_readSign fok_Tp cok_Tp (Nat.le_of_ble_eq_true rfl) (fun G hG => ?_)
  refine hG.1 [] 80 _ _ _ _ ?_
  refine hG.2.1 (c_Tp_next hn hp hb) yv_Tp_next lk_Tp_74 (by decide +kernel) rfl rfl [0, 1] (by decide +kernel) rfl rfl rfl (Nat.le_of_ble_eq_true rfl) (fun v w2 hv hl2 => ?_)
  obtain ⟨rfl, rfl⟩ := hv
  refine hG.1 [] 80 _ _ _ _ ?_
  refine ⟨by omega, fun h2 => ?_, fun h2 => ?_⟩
  · refine hG.2.1 (c_Tp_faultAt hf) yv_Tp_faultAt lk_Tp_59 (by decide +kernel) rfl rfl [0, 1] (by decide +kernel) rfl rfl rfl (Nat.le_of_ble_eq_true rfl) (fun v w2 hv hl2 => ?_)
    obtain ⟨rfl, rfl⟩ := hv
    refine hG.1 [] 80 _ _ _ _ ?_
    exact ⟨trivial, rfl, by rw [if_neg h2]; rfl⟩
  · exact ⟨trivial, rfl, by rw [if_pos h2]; rfl⟩
theorem c_Tp_goesOn {x m : Int} (hn : n ≤ 80) (hp : p ≤ n) (hb : ∀ j : Nat, j < n → 32 ≤ b j ∧ b j ≤ 126) (hf : -1000 ≤ fl ∧ fl ≤ 0) (hx : 0 ≤ x ∧ x ≤ 1000) (hm : m = 0 ∨ m = 1) : zMet m_Tp_goesOn [.inr (.inr 0), .inl x, .inl m] (wTp b n p fl)
    (fun v w => (fl ≠ 0 ∧ v = some (.inl 0) ∧ w = wTp b n p fl) ∨ (fl = 0 ∧ ¬ zSk b n p < n ∧ v = some (.inl 0) ∧ w = wTp b n (zSk b n p) fl) ∨ (fl = 0 ∧ zSk b n p < n ∧ ¬ (b (zSk b n p) = x ∧ m = 1) ∧ v = some (.inl 0) ∧ w = wTp b n (zSk b n p) (-20 - (zSk b n p : Int))) ∨ (fl = 0 ∧ zSk b n p < n ∧ b (zSk b n p) = x ∧ m = 1 ∧ v = some (.inl 1) ∧ w = wTp b n (zSk b n p + 1) 0)) := by
  have h0 := zSk_in (b := b) hp
  have h1 := zNx_in hb (zSk b n p)
  refine zMet.of (own := RX5) rfl (by decide +kernel) tk_Tp_goesOn fok_Tp cok_Tp (Nat.le_of_ble_eq_true rfl) (fun G hG => ?_)
  refine hG.1 [] 80 _ _ _ _ ?_
  refine ⟨by omega, fun h2 => ?_, fun h2 => ?_⟩
  · exact ⟨Or.inl rfl, Or.inl ⟨h2, rfl, rfl⟩⟩
  · subst h2
    refine hG.2.1 (c_Tp_next hn hp hb) yv_Tp_next lk_Tp_74 (by decide +kernel) rfl rfl [0, 1] (by decide +kernel) rfl rfl rfl (Nat.le_of_ble_eq_true rfl) (fun v w2 hv hl2 => ?_)
    obtain ⟨rfl, rfl⟩ := hv
    refine hG.1 [] 80 _ _ _ _ ?_
    refine ⟨by omega, fun h3 => ?_, fun h3 => ?_⟩
    · have hlt : zSk b n p < n := by
        unfold zNx at h3; split at h3
        · assumption
        · omega
      have hx1 : zNx b n (zSk b n p) = b (zSk b n p) := by rw [zNx, if_pos hlt]
      refine hG.2.1 (c_Tp_next hn h0.2 hb) yv_Tp_next lk_Tp_74 (by decide +kernel) rfl rfl [0, 1] (by decide +kernel) rfl rfl rfl (Nat.le_of_ble_eq_true rfl) (fun v w2 hv hl2 => ?_)
      obtain ⟨rfl, rfl⟩ := hv
      rw [zSk_id hp]
      have bad : ¬ (b (zSk b n p) = x ∧ m = 1) → G 29 [(0, .inr (.inr 0)), (1, .inl x), (2, .inl m)] [] (wTp b n (zSk b n p) 0) := by
        intro hbad
        refine hG.1 [] 80 _ _ _ _ ?_
        refine hG.2.1 (c_Tp_faultAt (by omega)) yv_Tp_faultAt lk_Tp_59 (by decide +kernel) rfl rfl [0, 1] (by decide +kernel) rfl rfl rfl (Nat.le_of_ble_eq_true rfl) (fun v w2 hv hl2 => ?_)
        obtain ⟨rfl, rfl⟩ := hv
        refine hG.1 [] 80 _ _ _ _ ?_
        exact ⟨Or.inl rfl, Or.inr (Or.inr (Or.inl ⟨rfl, hlt, hbad, rfl, rfl⟩))⟩
      refine hG.1 [29] 80 _ _ _ _ ?_
      refine ⟨by omega, fun h4 => ?_, fun h4 => ?_⟩
      · exact bad (fun z => h4 (by rw [hx1]; exact z.1))
      · refine ⟨by omega, fun h5 => ?_, fun h5 => ?_⟩
        · exact ⟨Or.inr rfl, Or.inr (Or.inr (Or.inr ⟨rfl, hlt, by rw [← hx1]; exact h4, by omega, rfl, rfl⟩))⟩
        · exact bad (fun z => by omega)
    · have hge : ¬ zSk b n p < n := fun hlt => by
        rw [zNx, if_pos hlt] at h3
        have := hb _ hlt; omega
      exact ⟨Or.inl rfl, Or.inr (Or.inl ⟨rfl, hge, rfl, rfl⟩)⟩
theorem c_Tp_readNumber {lo hi : Int} (hn : n ≤ 80) (hp : p ≤ n) (hb : ∀ j : Nat, j < n → 32 ≤ b j ∧ b j ≤ 126) (hf : -1000 ≤ fl ∧ fl ≤ 0) (hlo : 0 ≤ lo ∧ lo ≤ 1000) (hhi : 0 ≤ hi ∧ hi ≤ 1000) : zMet m_Tp_readNumber [.inr (.inr 0), .inl lo, .inl hi] (wTp b n p fl)
    (fun v w => v = some (.inl (zNum b n (zSk b n p))) ∧ w = wTp b n (zDg b n (zSk b n p)) (if zBadNum b n (zSk b n p) lo hi then zFl fl (zSk b n p) else fl)) := by
  have h0 := zSk_in (b := b) hp
  have hN := zNum_in b n (zSk b n p)
  have hD := zDg_in (b := b) h0.2
  refine zMet.of (own := RX5) rfl (by decide +kernel) tk_Tp_readNumber fok_Tp cok_Tp (Nat.le_of_ble_eq_true rfl) (fun G hG => ?_)
  refine hG.1 [] 80 _ _ _ _ ?_
  refine hG.2.1 (c_Tp_skipBlanks hn hp hb) yv_Tp_skipBlanks lk_Tp_48 (by decide +kernel) rfl rfl [0, 1] (by decide +kernel) rfl rfl rfl (Nat.le_of_ble_eq_true rfl) (fun v w2 hv hl2 => ?_)
  obtain ⟨rfl, rfl⟩ := hv
  refine hG.1 [12] 80 _ _ _ _ ?_
  have out : G 77 [(0, .inr (.inr 0)), (1, .inl lo), (2, .inl hi), (3, .inl (zSk b n p : Int)), (4, .inl (zNum b n (zSk b n p)))] [] (wTp b n (zDg b n (zSk b n p)) fl) := by
    have bad : zBadNum b n (zSk b n p) lo hi → G 97 [(0, .inr (.inr 0)), (1, .inl lo), (2, .inl hi), (3, .inl (zSk b n p : Int)), (4, .inl (zNum b n (zSk b n p)))] [] (wTp b n (zDg b n (zSk b n p)) fl) := by
      intro hbad
      refine hG.1 [] 80 _ _ _ _ ?_
      refine hG.2.1 (c_Tp_faultAt hf) yv_Tp_faultAt lk_Tp_59 (by decide +kernel) rfl rfl [0, 1] (by decide +kernel) rfl rfl rfl (Nat.le_of_ble_eq_true rfl) (fun v w2 hv hl2 => ?_)
      obtain ⟨rfl, rfl⟩ := hv
      refine hG.1 [] 80 _ _ _ _ ?_
      exact ⟨trivial, rfl, by rw [if_pos hbad]; rfl⟩
    refine hG.1 [97] 80 _ _ _ _ ?_
    refine ⟨by omega, fun h1 => ?_, fun h1 => ?_⟩
    · exact bad (Or.inl (by omega))
    · refine ⟨by omega, fun h2 => ?_, fun h2 => ?_⟩
      · exact bad (Or.inr (Or.inl h2))
      · refine ⟨by omega, fun h3 => ?_, fun h3 => ?_⟩
        · refine ⟨trivial, rfl, ?_⟩
          rw [if_neg]
          rintro (h | h | h) <;> omega
        · exact bad (Or.inr (Or.inr h3))
  have key : ∀ d q : Nat, q + d = n → ∀ acc : Int, 0 ≤ acc ∧ acc ≤ 1000 → zDg b n q = zDg b n (zSk b n p) → zNmS b (n - q) q acc = zNum b n (zSk b n p) → G 12 [(0, .inr (.inr 0)), (1, .inl lo), (2, .inl hi), (3, .inl (zSk b n p : Int)), (4, .inl acc)] [] (wTp b n q fl) := by
    intro d
    induction d with
    | zero =>
      intro q hq acc ha e1 e2
      have e3 : zDg b n q = q := zScan_stop (by omega)
      have e4 : zNmS b (n - q) q acc = acc := by rw [show n - q = 0 by omega]; rfl
      rw [e3] at e1; rw [e4] at e2
      refine hG.1 [77] 80 _ _ _ _ ?_
      refine ⟨by omega, fun h1 => ?_, fun h1 => absurd h1 (by omega)⟩
      rw [← e1, ← e2] at out
      exact out
    | succ d ih =>
      intro q hq acc ha e1 e2
      have hbq := hb q (by omega)
      refine hG.1 [77] 80 _ _ _ _ ?_
      refine ⟨by omega, fun h1 => absurd h1 (by omega), fun h1 => ?_⟩
      refine ⟨by omega, ?_⟩
      refine hG.2.2.1 (c_Tp_isFigure (x := b q) (by omega)) ys_Tp_isFigure (Or.inl lk_Tp_77) (by decide +kernel) rfl [] (by decide +kernel) rfl rfl rfl (Nat.le_of_ble_eq_true rfl) (fun v w2 hv hl2 => ?_)
      have e4 : zNmS b (n - q) q acc = (if 48 ≤ b q ∧ b q ≤ 57 then zNmS b (n - (q + 1)) (q + 1) (if 10 * acc + b q - 48 ≤ 1000 then 10 * acc + b q - 48 else 1000) else acc) := by
        rw [show n - q = (n - (q + 1)) + 1 by omega]; rfl
      obtain ⟨⟨hc, rfl⟩ | ⟨hc, rfl⟩, rfl⟩ := hv
      · have e3 : zDg b n q = zDg b n (q + 1) := zScan_step (by omega) (by simpa using hc)
        rw [if_pos hc] at e4
        refine hG.1 [77, 12] 80 _ _ _ _ ?_
        refine ⟨by omega, fun h2 => absurd h2 (by omega), fun h2 => ?_⟩
        refine ⟨by omega, ?_⟩
        refine hG.2.2.1 (c_Ja_min (x := 10 * acc + b q - 48) (y := 1000) (by omega) (by omega)) ys_Ja_min (Or.inl lk_Tp_87) (by decide +kernel) rfl [] (by decide +kernel) rfl rfl rfl (Nat.le_of_ble_eq_true rfl) (fun v w2 hv hl2 => ?_)
        obtain ⟨rfl, rfl⟩ := hv
        refine hG.1 [12] 80 _ _ _ _ ?_
        exact ih (q + 1) (by omega) _ (by split <;> omega) (by rw [← e3]; exact e1) (by rw [← e4]; exact e2)
      · have e3 : zDg b n q = q := zScan_stop (fun z => hc (by simpa using z.2))
        rw [if_neg hc] at e4
        rw [e3] at e1; rw [e4] at e2
        refine hG.1 [77] 80 _ _ _ _ ?_
        refine ⟨by omega, fun h2 => ?_, fun h2 => absurd rfl h2⟩
        rw [← e1, ← e2] at out
        exact out
  exact key (n - zSk b n p) (zSk b n p) (by omega) 0 (by omega) rfl rfl
end Tp
end
section
/-! THE TAPE of the class: suppers and guests -/
def zDish (b : Int → Int) (n : Nat) (w : Int → Int) (p : Nat) : Nat ⊕ ((Int → Int) × Nat) :=
  if zBadNum b n (zSk b n p) 0 20 then .inl (zSk b n p)
  else if 0 < w (zNum b n (zSk b n p)) then .inl (zSk b n p)
  else if ¬ zNx b n (zSk b n (zDg b n (zSk b n p))) = 120 then .inl (zSk b n (zDg b n (zSk b n p)))
  else if zBadNum b n (zSk b n (zSk b n (zDg b n (zSk b n p)) + 1)) 1 99 then .inl (zSk b n (zSk b n (zDg b n (zSk b n p)) + 1))
  else .inr (z_u w (zNum b n (zSk b n p)) (zNum b n (zSk b n (zSk b n (zDg b n (zSk b n p)) + 1))), zDg b n (zSk b n (zSk b n (zDg b n (zSk b n p)) + 1)))
def zDQ (r : Nat ⊕ ((Int → Int) × Nat)) (p' : Nat) (fl' : Int) (w' : Int → Int) : Prop := match r with
  | .inl f => fl' = -20 - (f : Int)
  | .inr q => fl' = 0 ∧ w' = q.1 ∧ p' = q.2
def zMeal (b : Int → Int) (n : Nat) : Nat → (Int → Int) → Nat → Nat ⊕ (Int → Int)
  | 0, _, p => .inl p
  | d + 1, w, p => match zDish b n w p with
    | .inl f => .inl f
    | .inr q => if ¬ zSk b n q.2 < n then .inr q.1 else if b (zSk b n q.2) = 44 ∧ d ≠ 0 then zMeal b n d q.1 (zSk b n q.2 + 1) else .inl (zSk b n q.2)
def zMQ (r : Nat ⊕ (Int → Int)) (fl' : Int) (w' : Int → Int) : Prop := match r with
  | .inl f => fl' = -20 - (f : Int)
  | .inr q => fl' = 0 ∧ w' = q
theorem zNx_lt {b : Int → Int} {n q : Nat} {x : Int} (h : zNx b n q = x) (hx : 0 ≤ x) : q < n ∧ b q = x := by
  unfold zNx at h; split at h
  · exact ⟨by assumption, h⟩
  · omega
section Tp2
variable {b : Int → Int} {n p : Nat}
theorem zDish_in {w : Int → Int} (hp : p ≤ n) (hw : ∀ j : Nat, j < 21 → 0 ≤ w j ∧ w j ≤ 99) : match zDish b n w p with
    | .inl f => f ≤ n ∧ zSk b n f = f
    | .inr q => q.2 ≤ n ∧ ∀ j : Nat, j < 21 → 0 ≤ q.1 j ∧ q.1 j ≤ 99 := by
  have h0 := zSk_in (b := b) hp
  have h1 := zDg_in (b := b) h0.2
  have h2 := zSk_in (b := b) h1.2
  unfold zDish
  by_cases a1 : zBadNum b n (zSk b n p) 0 20
  · rw [if_pos a1]; exact ⟨h0.2, zSk_id hp⟩
  rw [if_neg a1]
  by_cases a2 : 0 < w (zNum b n (zSk b n p))
  · rw [if_pos a2]; exact ⟨h0.2, zSk_id hp⟩
  rw [if_neg a2]
  by_cases a3 : zNx b n (zSk b n (zDg b n (zSk b n p))) = 120
  · rw [if_neg (fun z => z a3)]
    have hx := (zNx_lt a3 (by omega)).1
    have h3 := zSk_in (b := b) (show zSk b n (zDg b n (zSk b n p)) + 1 ≤ n by omega)
    have h4 := zDg_in (b := b) h3.2
    by_cases a4 : zBadNum b n (zSk b n (zSk b n (zDg b n (zSk b n p)) + 1)) 1 99
    · rw [if_pos a4]; exact ⟨h3.2, zSk_id (by omega)⟩
    · rw [if_neg a4]
      refine ⟨h4.2, fun j hj => ?_⟩
      dsimp only
      unfold z_u
      split
      · have : ¬ (zNum b n (zSk b n (zSk b n (zDg b n (zSk b n p)) + 1)) < 1 ∨ 99 < zNum b n (zSk b n (zSk b n (zDg b n (zSk b n p)) + 1))) := fun z => a4 (Or.inr z)
        omega
      · exact hw j hj
  · rw [if_pos a3]; exact ⟨h2.2, zSk_id h1.2⟩
theorem c_Tp_readDish {w : Int → Int} (hn : n ≤ 80) (hp : p ≤ n) (hb : ∀ j : Nat, j < n → 32 ≤ b j ∧ b j ≤ 126) (hw : ∀ j : Nat, j < 21 → 0 ≤ w j ∧ w j ≤ 99) : zMet m_Tp_readDish [.inr (.inr 0), .inr (.inr 2)] (wTpSu b n p 0 w)
    (fun v wd => v = none ∧ ∃ (p' : Nat) (fl' : Int) (w' : Int → Int), wd = wTpSu b n p' fl' w' ∧ p' ≤ n ∧ (-200 ≤ fl' ∧ fl' ≤ 0) ∧ zDQ (zDish b n w p) p' fl' w') := by
  have h0 := zSk_in (b := b) hp
  have hD := zDg_in (b := b) h0.2
  have hN := zNum_in b n (zSk b n p)
  refine zMet.of (own := RX5) rfl (by decide +kernel) tk_Tp_readDish fok_Tp cok_Tp (Nat.le_of_ble_eq_true rfl) (fun G hG => ?_)
  -- from the sign on
  have tail : ∀ (q : Nat) (fl sum : Int), q ≤ n → (-200 ≤ fl ∧ fl ≤ 0) → (fl = 0 → 0 ≤ sum ∧ sum < 21) → (∀ (p' : Nat) (fl' : Int) (w' : Int → Int),
      (fl ≠ 0 → fl' = fl) → (fl = 0 → zNx b n (zSk b n q) ≠ 120 → fl' = -20 - (zSk b n q : Int)) → (fl = 0 → zNx b n (zSk b n q) = 120 → zBadNum b n (zSk b n (zSk b n q + 1)) 1 99 → fl' = -20 - (zSk b n (zSk b n q + 1) : Int)) →
      (fl = 0 → zNx b n (zSk b n q) = 120 → ¬ zBadNum b n (zSk b n (zSk b n q + 1)) 1 99 → fl' = 0 ∧ w' = z_u w sum (zNum b n (zSk b n (zSk b n q + 1))) ∧ p' = zDg b n (zSk b n (zSk b n q + 1))) → zDQ (zDish b n w p) p' fl' w') →
      G 37 [(0, .inr (.inr 0)), (1, .inr (.inr 2)), (2, .inl (zSk b n p : Int)), (3, .inl sum)] [] (wTpSu b n q fl w) := by
    intro q fl sum hq hfl hsum hQ
    have k0 := zSk_in (b := b) hq
    -- from the number on
    have tail2 : ∀ (q1 : Nat) (fl1 : Int), q1 ≤ n → (-200 ≤ fl1 ∧ fl1 ≤ 0) → (fl1 = 0 → fl = 0) → (∀ (p' : Nat) (fl' : Int) (w' : Int → Int), (fl1 ≠ 0 → fl' = fl1) → (fl1 = 0 → zBadNum b n (zSk b n q1) 1 99 → fl' = -20 - (zSk b n q1 : Int)) → (fl1 = 0 → ¬ zBadNum b n (zSk b n q1) 1 99 → fl' = 0 ∧ w' = z_u w sum (zNum b n (zSk b n q1)) ∧ p' = zDg b n (zSk b n q1)) → zDQ (zDish b n w p) p' fl' w') →
        G 43 [(0, .inr (.inr 0)), (1, .inr (.inr 2)), (2, .inl (zSk b n p : Int)), (3, .inl sum)] [] (wTpSu b n q1 fl1 w) := by
      intro q1 fl1 hq1 hfl1 hz1 hQ1
      have l0 := zSk_in (b := b) hq1
      have l1 := zDg_in (b := b) l0.2
      have l2 := zNum_in b n (zSk b n q1)
      refine hG.1 [] 80 _ _ _ _ ?_
      refine hG.2.1 (c_Tp_readNumber (fl := fl1) (lo := 1) (hi := 99) hn hq1 hb (by omega) (by omega) (by omega)) yv_Tp_readNumber lk_Tp_51 (by decide +kernel) rfl rfl [0, 1] (by decide +kernel) rfl rfl rfl (Nat.le_of_ble_eq_true rfl) (fun v w2 hv hl2 => ?_)
      obtain ⟨rfl, rfl⟩ := hv
      by_cases hbad : zBadNum b n (zSk b n q1) 1 99
      · rw [if_pos hbad]
        have hz : zFl fl1 (zSk b n q1) ≠ 0 ∧ (-200 ≤ zFl fl1 (zSk b n q1) ∧ zFl fl1 (zSk b n q1) ≤ 0) := by unfold zFl; split <;> omega
        refine hG.1 [] 80 _ _ _ _ ?_
        refine ⟨by omega, fun h1 => ?_, fun h1 => absurd h1 hz.1⟩
        refine ⟨trivial, rfl, _, _, _, rfl, l1.2, hz.2, hQ1 _ _ _ ?_ ?_ ?_⟩
        · intro h; rw [zFl, if_neg h]
        · intro h _; rw [zFl, if_pos h]
        · intro _ h; exact absurd hbad h
      · rw [if_neg hbad]
        refine hG.1 [] 80 _ _ _ _ ?_
        refine ⟨by omega, fun h1 => ?_, fun h1 => ?_⟩
        · refine ⟨trivial, rfl, _, _, _, rfl, l1.2, by omega, hQ1 _ _ _ ?_ ?_ ?_⟩
          · intro _; rfl
          · intro h _; exact absurd h h1
          · intro h _; exact absurd h h1
        · refine hG.2.1 (c_Su_putWeight (x := sum) (v0 := zNum b n (zSk b n q1)) (hsum (hz1 h1))) yv_Su_putWeight lk_Tp_66 (by decide +kernel) rfl rfl [2, 3] (by decide +kernel) rfl rfl rfl (Nat.le_of_ble_eq_true rfl) (fun v w2 hv hl2 => ?_)
          obtain ⟨rfl, rfl⟩ := hv
          refine hG.1 [] 80 _ _ _ _ ?_
          refine ⟨trivial, rfl, _, _, _, rfl, l1.2, by omega, hQ1 _ _ _ ?_ ?_ ?_⟩
          · intro h; exact absurd h1 h
          · intro _ h; exact absurd h hbad
          · intro _ _; exact ⟨h1, rfl, rfl⟩
    refine hG.1 [] 80 _ _ _ _ ?_
    refine hG.2.1 (c_Tp_readSign (x := 120) (fl := fl) hn hq hb (by omega) (by omega)) yv_Tp_readSign lk_Tp_63 (by decide +kernel) rfl rfl [0, 1] (by decide +kernel) rfl rfl rfl (Nat.le_of_ble_eq_true rfl) (fun v w2 hv hl2 => ?_)
    obtain ⟨rfl, rfl⟩ := hv
    by_cases hx : zNx b n (zSk b n q) = 120
    · rw [if_pos hx]
      have hlt := (zNx_lt hx (by omega)).1
      refine tail2 (zSk b n q + 1) fl (by omega) hfl (fun h => h) (fun p' fl' w' g1 g2 g3 => hQ p' fl' w' g1 ?_ ?_ ?_)
      · intro _ h; exact absurd hx h
      · intro h _ h2; exact g2 h h2
      · intro h _ h2; exact g3 h h2
    · rw [if_neg hx]
      have hz : zFl fl (zSk b n q) ≠ 0 ∧ (-200 ≤ zFl fl (zSk b n q) ∧ zFl fl (zSk b n q) ≤ 0) := by unfold zFl; split <;> omega
      refine tail2 (zSk b n q) (zFl fl (zSk b n q)) k0.2 hz.2 (fun h => absurd h hz.1) (fun p' fl' w' g1 g2 g3 => hQ p' fl' w' ?_ ?_ ?_ ?_)
      · intro h; rw [g1 hz.1, zFl, if_neg h]
      · intro h _; rw [g1 hz.1, zFl, if_pos h]
      · intro _ h; exact absurd h hx
      · intro _ h; exact absurd h hx
  refine hG.1 [] 80 _ _ _ _ ?_
  refine hG.2.1 (c_Tp_skipBlanks hn hp hb) yv_Tp_skipBlanks lk_Tp_48 (by decide +kernel) rfl rfl [0, 1] (by decide +kernel) rfl rfl rfl (Nat.le_of_ble_eq_true rfl) (fun v w2 hv hl2 => ?_)
  obtain ⟨rfl, rfl⟩ := hv
  refine hG.1 [] 80 _ _ _ _ ?_
  refine hG.2.1 (c_Tp_readNumber (fl := 0) (lo := 0) (hi := 20) hn h0.2 hb (by omega) (by omega) (by omega)) yv_Tp_readNumber lk_Tp_51 (by decide +kernel) rfl rfl [0, 1] (by decide +kernel) rfl rfl rfl (Nat.le_of_ble_eq_true rfl) (fun v w2 hv hl2 => ?_)
  obtain ⟨rfl, rfl⟩ := hv
  rw [zSk_id hp]
  by_cases hbad : zBadNum b n (zSk b n p) 0 20
  · rw [if_pos hbad]
    have hz : zFl 0 (zSk b n p) = -20 - (zSk b n p : Int) := by rw [zFl, if_pos rfl]
    rw [hz]
    have hd : zDish b n w p = .inl (zSk b n p) := by unfold zDish; rw [if_pos hbad]
    refine hG.1 [37] 80 _ _ _ _ ?_
    refine ⟨by omega, fun h1 => ?_, fun h1 => by omega⟩
    refine tail _ _ _ hD.2 (by omega) (fun h => by omega) (fun p' fl' w' g1 _ _ _ => ?_)
    rw [hd]; exact g1 h1
  · rw [if_neg hbad]
    have hin : ¬ (zNum b n (zSk b n p) < 0 ∨ 20 < zNum b n (zSk b n p)) := fun z => hbad (Or.inr z)
    refine hG.1 [37] 80 _ _ _ _ ?_
    refine ⟨by omega, fun h1 => absurd rfl h1, fun h1 => ?_⟩
    refine hG.2.1 (c_Su_weightOf (x := zNum b n (zSk b n p)) (by omega)) yv_Su_weightOf lk_Tp_55 (by decide +kernel) rfl rfl [2, 3] (by decide +kernel) rfl rfl rfl (Nat.le_of_ble_eq_true rfl) (fun v w2 hv hl2 => ?_)
    obtain ⟨rfl, rfl⟩ := hv
    have hwv : 0 ≤ w (zNum b n (zSk b n p)) ∧ w (zNum b n (zSk b n p)) ≤ 99 := by
      obtain ⟨k, hk⟩ := z_nat hN.1
      rw [hk]; exact hw k (by omega)
    refine hG.1 [37] 80 _ _ _ _ ?_
    refine ⟨by omega, fun h2 => ?_, fun h2 => ?_⟩
    · refine tail _ _ _ hD.2 (by omega) (fun _ => by omega) (fun p' fl' w' _ g2 g3 g4 => ?_)
      by_cases hx : zNx b n (zSk b n (zDg b n (zSk b n p))) = 120
      · by_cases hb2 : zBadNum b n (zSk b n (zSk b n (zDg b n (zSk b n p)) + 1)) 1 99
        · have hd : zDish b n w p = .inl (zSk b n (zSk b n (zDg b n (zSk b n p)) + 1)) := by unfold zDish; rw [if_neg hbad, if_neg (by omega), if_neg (by omega), if_pos hb2]
          rw [hd]; exact g3 rfl hx hb2
        · have hd : zDish b n w p = .inr (z_u w (zNum b n (zSk b n p)) (zNum b n (zSk b n (zSk b n (zDg b n (zSk b n p)) + 1))), zDg b n (zSk b n (zSk b n (zDg b n (zSk b n p)) + 1))) := by unfold zDish; rw [if_neg hbad, if_neg (by omega), if_neg (by omega), if_neg hb2]
          rw [hd]; exact g4 rfl hx hb2
      · have hd : zDish b n w p = .inl (zSk b n (zDg b n (zSk b n p))) := by unfold zDish; rw [if_neg hbad, if_neg (by omega), if_pos hx]
        rw [hd]; exact g2 rfl hx
    · refine hG.2.1 (c_Tp_faultAt (by omega)) yv_Tp_faultAt lk_Tp_59 (by decide +kernel) rfl rfl [0, 1] (by decide +kernel) rfl rfl rfl (Nat.le_of_ble_eq_true rfl) (fun v w2 hv hl2 => ?_)
      obtain ⟨rfl, rfl⟩ := hv
      have hz : zFl 0 (zSk b n p) = -20 - (zSk b n p : Int) := by rw [zFl, if_pos rfl]
      rw [hz]
      have hd : zDish b n w p = .inl (zSk b n p) := by unfold zDish; rw [if_neg hbad, if_pos h2]
      refine tail _ _ _ hD.2 (by omega) (fun h => by omega) (fun p' fl' w' g1 _ _ _ => ?_)
      rw [hd]; exact g1 (by omega)
theorem c_Tp_takeSupper {w : Int → Int} {fl : Int} (hn : n ≤ 80) (hb : ∀ j : Nat, j < n → 32 ≤ b j ∧ b j ≤ 126) : zMet m_Tp_takeSupper [.inr (.inr 0), .inr (.inr 2)] (wTpSu b n p fl w)
    (fun v wd => ∃ (p' : Nat) (fl' : Int) (w' : Int → Int), v = some (.inl fl') ∧ wd = wTpSu b 0 p' fl' w' ∧ (-200 ≤ fl' ∧ fl' ≤ 0) ∧ zMQ (zMeal b n 8 (zFill w 21) 0) fl' w') := by
  refine zMet.of (own := RX5) rfl (by decide +kernel) tk_Tp_takeSupper fok_Tp cok_Tp (Nat.le_of_ble_eq_true rfl) (fun G hG => ?_)
  refine hG.1 [] 80 _ _ _ _ ?_
  refine hG.2.1 (c_Su_clear ) yv_Su_clear lk_Tp_25 (by decide +kernel) rfl rfl [2, 3] (by decide +kernel) rfl rfl rfl (Nat.le_of_ble_eq_true rfl) (fun v w2 hv hl2 => ?_)
  obtain ⟨rfl, rfl⟩ := hv
  refine hG.1 [] 80 _ _ _ _ ?_
  refine hG.2.1 (c_Tp_begin ) yv_Tp_begin lk_Tp_30 (by decide +kernel) rfl rfl [0, 1] (by decide +kernel) rfl rfl rfl (Nat.le_of_ble_eq_true rfl) (fun v w2 hv hl2 => ?_)
  obtain ⟨rfl, rfl⟩ := hv
  refine hG.1 [12] 80 _ _ _ _ ?_
  have hw0 : ∀ j : Nat, j < 21 → 0 ≤ zFill w 21 j ∧ zFill w 21 j ≤ 99 := fun j hj => by unfold zFill; rw [if_pos (by omega)]; omega
  have out : ∀ (q : Nat) (fl' k m : Int) (w' : Int → Int), q ≤ n → (-200 ≤ fl' ∧ fl' ≤ 0) → zMQ (zMeal b n 8 (zFill w 21) 0) fl' w' → G 51 [(0, .inr (.inr 0)), (1, .inr (.inr 2)), (2, .inl m), (3, .inl k)] [] (wTpSu b n q fl' w') := by
    intro q fl' k m w' hq hfl h
    refine hG.1 [] 80 _ _ _ _ ?_
    exact ⟨trivial, q, fl', w', rfl, rfl, hfl, h⟩
  have key : ∀ d k : Nat, k + d = 9 → ∀ (q : Nat) (w1 : Int → Int), 1 ≤ k → 1 ≤ d → q ≤ n → (∀ j : Nat, j < 21 → 0 ≤ w1 j ∧ w1 j ≤ 99) → zMeal b n d w1 q = zMeal b n 8 (zFill w 21) 0 → G 12 [(0, .inr (.inr 0)), (1, .inr (.inr 2)), (2, .inl 1), (3, .inl (k : Int))] [] (wTpSu b n q 0 w1) := by
    intro d
    induction d with
    | zero => intro k hk q w1 h1 h2; omega
    | succ d ih =>
      intro k hk q w1 h1 _ hq hw1 he
      have he' : (match zDish b n w1 q with
        | .inl f => .inl f
        | .inr r => if ¬ zSk b n r.2 < n then .inr r.1 else if b (zSk b n r.2) = 44 ∧ d ≠ 0 then zMeal b n d r.1 (zSk b n r.2 + 1) else .inl (zSk b n r.2)) = zMeal b n 8 (zFill w 21) 0 := he
      have hdi := zDish_in (b := b) hq hw1
      refine hG.1 [51] 80 _ _ _ _ ?_
      refine ⟨by omega, fun h3 => absurd h3 (by omega), fun h3 => ?_⟩
      refine ⟨by omega, fun h4 => absurd h4 (by omega), fun h4 => ?_⟩
      refine hG.2.1 (c_Tp_readDish hn hq hb hw1) yv_Tp_readDish lk_Tp_33 (by decide +kernel) rfl rfl [0, 1, 2, 3] (by decide +kernel) rfl rfl rfl (Nat.le_of_ble_eq_true rfl) (fun v w2 hv hl2 => ?_)
      obtain ⟨rfl, p', fl', w', rfl, hp', hfl', hQ⟩ := hv
      -- the flag
      have rest : ∀ m : Int, (m = 1 ∧ (k : Int) < 8) ∨ (m = 0 ∧ 8 ≤ (k : Int)) → G 41 [(0, .inr (.inr 0)), (1, .inr (.inr 2)), (2, .inl 1), (3, .inl (k : Int))] [.inl m, .inl 44, .inr (.inr 0)] (wTpSu b n p' fl' w') := by
        intro m hm
        refine hG.2.1 (c_Tp_goesOn (x := 44) (m := m) hn hp' hb (by omega) (by omega) (by omega)) yv_Tp_goesOn lk_Tp_37 (by decide +kernel) rfl rfl [0, 1] (by decide +kernel) rfl rfl rfl (Nat.le_of_ble_eq_true rfl) (fun v w2 hv hl2 => ?_)
        cases hz : zDish b n w1 q with
        | inl f =>
          rw [hz] at hQ he' hdi
          have hQ : fl' = -20 - (f : Int) := hQ
          rcases hv with ⟨g1, rfl, rfl⟩ | ⟨g1, _⟩ | ⟨g1, _⟩ | ⟨g1, _⟩
          · refine hG.1 [] 80 _ _ _ _ ?_
            refine ⟨by omega, fun h5 => ?_, fun h5 => ?_⟩
            · refine ⟨trivial, p', fl', w', rfl, rfl, hfl', ?_⟩
              rw [← he']; exact hQ
            · refine ⟨by omega, fun h6 => ?_, fun h6 => absurd rfl h6⟩
              refine ⟨trivial, p', fl', w', rfl, rfl, hfl', ?_⟩
              rw [← he']; exact hQ
          all_goals omega
        | inr r =>
          rw [hz] at hQ he' hdi
          obtain ⟨rfl, rfl, rfl⟩ : fl' = 0 ∧ w' = r.1 ∧ p' = r.2 := hQ
          dsimp only at he' hdi
          rcases hv with ⟨g1, _⟩ | ⟨_, g1, rfl, rfl⟩ | ⟨_, g1, g2, rfl, rfl⟩ | ⟨_, g1, g2, g3, rfl, rfl⟩
          · exact absurd rfl g1
          · rw [if_pos g1] at he'
            refine hG.1 [] 80 _ _ _ _ ?_
            refine ⟨by omega, fun h5 => ?_, fun h5 => ?_⟩
            · refine ⟨trivial, _, _, _, rfl, rfl, hfl', ?_⟩
              rw [← he']; exact ⟨rfl, rfl⟩
            · refine ⟨by omega, fun h6 => ?_, fun h6 => absurd rfl h6⟩
              refine ⟨trivial, _, _, _, rfl, rfl, hfl', ?_⟩
              rw [← he']; exact ⟨rfl, rfl⟩
          · have hk2 := zSk_in (b := b) hp'
            rw [if_neg (by omega), if_neg (by omega)] at he'
            refine hG.1 [] 80 _ _ _ _ ?_
            refine ⟨by omega, fun h5 => ?_, fun h5 => ?_⟩
            · refine ⟨trivial, _, _, _, rfl, rfl, by omega, ?_⟩
              rw [← he']; rfl
            · refine ⟨by omega, fun h6 => ?_, fun h6 => absurd rfl h6⟩
              refine ⟨trivial, _, _, _, rfl, rfl, by omega, ?_⟩
              rw [← he']; rfl
          · rw [if_neg (by omega), if_pos (by omega)] at he'
            refine hG.1 [12] 80 _ _ _ _ ?_
            exact ih (k + 1) (by omega) _ _ (by omega) (by omega) (by omega) hdi.2 he'
      refine hG.1 [41] 80 _ _ _ _ ?_
      refine ⟨by omega, fun h5 => ?_, fun h5 => ?_⟩
      · exact rest 0 (by omega)
      · exact rest 1 (by omega)
  exact key 8 1 rfl 0 _ (by omega) (by omega) (by omega) hw0 rfl
end Tp2
end
section
/-! THE TAPE of the class: guests -/
/-- a guest of a text: a fault, or kind, slip and the next place -/
def zGst (b : Int → Int) (n p : Nat) : Nat ⊕ (Int × (Int × Nat)) :=
  if zKind (zNx b n (zSk b n p)) < 0 then .inl (zSk b n p)
  else if zKind (zNx b n (zSk b n p)) ≠ 2 ∧ 48 ≤ zNx b n (zSk b n (zSk b n p + 1)) ∧ zNx b n (zSk b n (zSk b n p + 1)) ≤ 57 then
    (if zBadNum b n (zSk b n (zSk b n p + 1)) 0 20 then .inl (zSk b n (zSk b n p + 1)) else .inr (zKind (zNx b n (zSk b n p)), (zNum b n (zSk b n (zSk b n p + 1)), zDg b n (zSk b n (zSk b n p + 1)))))
  else .inr (zKind (zNx b n (zSk b n p)), (0, if zKind (zNx b n (zSk b n p)) ≠ 2 then zSk b n (zSk b n p + 1) else zSk b n p + 1))
def zGQ (r : Nat ⊕ (Int × (Int × Nat))) (ks ss : Int → Int) (m : Nat) (p' : Nat) (fl' : Int) (ks' ss' : Int → Int) (m' : Nat) : Prop := match r with
  | .inl f => fl' = -20 - (f : Int)
  | .inr q => fl' = 0 ∧ ks' = z_u ks m q.1 ∧ ss' = z_u ss m q.2.1 ∧ m' = m + 1 ∧ p' = q.2.2
def zTab (b : Int → Int) (n : Nat) : Nat → (Int → Int) → (Int → Int) → Nat → Nat → Nat ⊕ ((Int → Int) × ((Int → Int) × Nat))
  | 0, _, _, _, p => .inl p
  | d + 1, ks, ss, m, p => match zGst b n p with
    | .inl f => .inl f
    | .inr q => if ¬ zSk b n q.2.2 < n then .inr (z_u ks m q.1, (z_u ss m q.2.1, m + 1)) else if b (zSk b n q.2.2) = 59 ∧ d ≠ 0 then zTab b n d (z_u ks m q.1) (z_u ss m q.2.1) (m + 1) (zSk b n q.2.2 + 1) else .inl (zSk b n q.2.2)
def zTQ (r : Nat ⊕ ((Int → Int) × ((Int → Int) × Nat))) (fl' : Int) (ks' ss' : Int → Int) (m' : Nat) : Prop := match r with
  | .inl f => fl' = -20 - (f : Int)
  | .inr q => fl' = 0 ∧ ks' = q.1 ∧ ss' = q.2.1 ∧ m' = q.2.2
theorem zKind_in (x : Int) : -1 ≤ zKind x ∧ zKind x ≤ 3 := by
  unfold zKind; repeat' split
  all_goals omega
theorem zKind_lt {b : Int → Int} {n q : Nat} (h : ¬ zKind (zNx b n q) < 0) : q < n := by
  unfold zNx at h; split at h
  · assumption
  · exact absurd (by decide) h
def zGIn (n : Nat) (b : Int → Int) (r : Nat ⊕ (Int × (Int × Nat))) : Prop := match r with
  | .inl f => f ≤ n ∧ zSk b n f = f
  | .inr q => q.2.2 ≤ n ∧ (0 ≤ q.1 ∧ q.1 ≤ 3) ∧ (0 ≤ q.2.1 ∧ q.2.1 ≤ 20) ∧ (q.1 = 2 → q.2.1 = 0)
section Tp3
variable {b : Int → Int} {n p : Nat}
theorem zGst_in (hp : p ≤ n) : zGIn n b (zGst b n p) := by
  have h0 := zSk_in (b := b) hp
  have hk := zKind_in (zNx b n (zSk b n p))
  unfold zGst
  by_cases a1 : zKind (zNx b n (zSk b n p)) < 0
  · rw [if_pos a1]; exact ⟨h0.2, zSk_id hp⟩
  rw [if_neg a1]
  have hlt := zKind_lt a1
  have h1 := zSk_in (b := b) (show zSk b n p + 1 ≤ n by omega)
  have h2 := zDg_in (b := b) h1.2
  have hN := zNum_in b n (zSk b n (zSk b n p + 1))
  by_cases a2 : zKind (zNx b n (zSk b n p)) ≠ 2 ∧ 48 ≤ zNx b n (zSk b n (zSk b n p + 1)) ∧ zNx b n (zSk b n (zSk b n p + 1)) ≤ 57
  · rw [if_pos a2]
    by_cases a3 : zBadNum b n (zSk b n (zSk b n p + 1)) 0 20
    · rw [if_pos a3]; exact ⟨h1.2, zSk_id (by omega)⟩
    · rw [if_neg a3]
      have : ¬ (zNum b n (zSk b n (zSk b n p + 1)) < 0 ∨ 20 < zNum b n (zSk b n (zSk b n p + 1))) := fun z => a3 (Or.inr z)
      exact ⟨h2.2, by dsimp only; omega, by dsimp only; omega, fun z => absurd z a2.1⟩
  · rw [if_neg a2]
    refine ⟨?_, by dsimp only; omega, by dsimp only; omega, fun _ => rfl⟩
    dsimp only; split <;> omega
theorem c_Tp_readGuest {ks ss : Int → Int} {m : Nat} {who ties : Int} (hn : n ≤ 80) (hp : p ≤ n) (hb : ∀ j : Nat, j < n → 32 ≤ b j ∧ b j ≤ 126) (hm : m < 9) : zMet m_Tp_readGuest [.inr (.inr 0), .inr (.inr 2)] (wTpCo b n p 0 ks ss m who ties)
    (fun v wd => v = none ∧ ∃ (p' : Nat) (fl' : Int) (ks' ss' : Int → Int) (m' : Nat), wd = wTpCo b n p' fl' ks' ss' m' who ties ∧ p' ≤ n ∧ (-200 ≤ fl' ∧ fl' ≤ 0) ∧ zGQ (zGst b n p) ks ss m p' fl' ks' ss' m') := by
  have h0 := zSk_in (b := b) hp
  have hk := zKind_in (zNx b n (zSk b n p))
  refine zMet.of (own := RX5) rfl (by decide +kernel) tk_Tp_readGuest fok_Tp cok_Tp (Nat.le_of_ble_eq_true rfl) (fun G hG => ?_)
  refine hG.1 [] 80 _ _ _ _ ?_
  refine hG.2.1 (c_Tp_readKind (fl := 0) hn hp hb (by omega)) yv_Tp_readKind lk_Tp_70 (by decide +kernel) rfl rfl [0, 1] (by decide +kernel) rfl rfl rfl (Nat.le_of_ble_eq_true rfl) (fun v w2 hv hl2 => ?_)
  obtain ⟨rfl, rfl⟩ := hv
  have fin : ∀ (q : Nat) (sl : Int), q ≤ n → zGst b n p = .inr (zKind (zNx b n (zSk b n p)), (sl, q)) → G 37 [(0, .inr (.inr 0)), (1, .inr (.inr 2)), (2, .inl (zKind (zNx b n (zSk b n p)))), (3, .inl sl)] [] (wTpCo b n q 0 ks ss m who ties) := by
    intro q sl hq hz
    refine hG.1 [] 80 _ _ _ _ ?_
    refine ⟨by omega, fun h1 => absurd rfl h1, fun h1 => ?_⟩
    refine hG.2.1 (c_Co_seat (k := zKind (zNx b n (zSk b n p))) (x := sl) hm) yv_Co_seat lk_Tp_81 (by decide +kernel) rfl rfl [2, 3, 4] (by decide +kernel) rfl rfl rfl (Nat.le_of_ble_eq_true rfl) (fun v w2 hv hl2 => ?_)
    obtain ⟨rfl, rfl⟩ := hv
    refine hG.1 [] 80 _ _ _ _ ?_
    refine ⟨trivial, rfl, q, 0, _, _, _, rfl, hq, by omega, ?_⟩
    rw [hz]; exact ⟨rfl, rfl, rfl, rfl, rfl⟩
  by_cases a1 : zKind (zNx b n (zSk b n p)) < 0
  · rw [if_pos a1]
    have hz : zFl 0 (zSk b n p) = -20 - (zSk b n p : Int) := by rw [zFl, if_pos rfl]
    rw [hz]
    have hd : zGst b n p = .inl (zSk b n p) := by unfold zGst; rw [if_pos a1]
    refine hG.1 [] 80 _ _ _ _ ?_
    refine ⟨by omega, fun h1 => ?_, fun h1 => by omega⟩
    refine ⟨by omega, fun h1 => ?_, fun h1 => by omega⟩
    refine ⟨trivial, rfl, _, _, _, _, _, rfl, h0.2, by omega, ?_⟩
    rw [hd]; rfl
  · rw [if_neg a1]
    have hlt := zKind_lt a1
    have h1 := zSk_in (b := b) (show zSk b n p + 1 ≤ n by omega)
    have h2 := zDg_in (b := b) h1.2
    have hN := zNum_in b n (zSk b n (zSk b n p + 1))
    have hX := zNx_in hb (zSk b n (zSk b n p + 1))
    refine hG.1 [37] 80 _ _ _ _ ?_
    refine ⟨by omega, fun g1 => absurd rfl g1, fun g1 => ?_⟩
    refine ⟨by omega, fun g2 => ?_, fun g2 => ?_⟩
    · refine fin _ _ (by omega) ?_
      unfold zGst; rw [if_neg a1, if_neg (fun z => z.1 g2), if_neg (fun z => z g2)]
    · refine hG.2.1 (c_Tp_next (fl := 0) hn (show zSk b n p + 1 ≤ n by omega) hb) yv_Tp_next lk_Tp_74 (by decide +kernel) rfl rfl [0, 1] (by decide +kernel) rfl rfl rfl (Nat.le_of_ble_eq_true rfl) (fun v w2 hv hl2 => ?_)
      obtain ⟨rfl, rfl⟩ := hv
      refine hG.1 [] 80 _ _ _ _ ?_
      refine hG.2.2.1 (c_Tp_isFigure (x := zNx b n (zSk b n (zSk b n p + 1))) (by omega)) ys_Tp_isFigure (Or.inl lk_Tp_77) (by decide +kernel) rfl [] (by decide +kernel) rfl rfl rfl (Nat.le_of_ble_eq_true rfl) (fun v w2 hv hl2 => ?_)
      obtain ⟨⟨hc, rfl⟩ | ⟨hc, rfl⟩, rfl⟩ := hv
      · refine hG.1 [] 80 _ _ _ _ ?_
        refine ⟨by omega, fun g3 => absurd g3 (by omega), fun g3 => ?_⟩
        refine hG.2.1 (c_Tp_readNumber (fl := 0) (lo := 0) (hi := 20) hn h1.2 hb (by omega) (by omega) (by omega)) yv_Tp_readNumber lk_Tp_51 (by decide +kernel) rfl rfl [0, 1] (by decide +kernel) rfl rfl rfl (Nat.le_of_ble_eq_true rfl) (fun v w2 hv hl2 => ?_)
        obtain ⟨rfl, rfl⟩ := hv
        rw [zSk_id (by omega)]
        by_cases a3 : zBadNum b n (zSk b n (zSk b n p + 1)) 0 20
        · rw [if_pos a3]
          have hz : zFl 0 (zSk b n (zSk b n p + 1)) = -20 - (zSk b n (zSk b n p + 1) : Int) := by rw [zFl, if_pos rfl]
          rw [hz]
          have hd : zGst b n p = .inl (zSk b n (zSk b n p + 1)) := by unfold zGst; rw [if_neg a1, if_pos ⟨g2, hc⟩, if_pos a3]
          refine hG.1 [] 80 _ _ _ _ ?_
          refine ⟨by omega, fun g4 => ?_, fun g4 => by omega⟩
          refine ⟨trivial, rfl, _, _, _, _, _, rfl, h2.2, by omega, ?_⟩
          rw [hd]; rfl
        · rw [if_neg a3]
          refine hG.1 [37] 80 _ _ _ _ ?_
          refine fin _ _ h2.2 ?_
          unfold zGst; rw [if_neg a1, if_pos ⟨g2, hc⟩, if_neg a3]
      · refine hG.1 [37] 80 _ _ _ _ ?_
        refine ⟨by omega, fun g3 => ?_, fun g3 => absurd rfl g3⟩
        refine fin _ _ h1.2 ?_
        unfold zGst; rw [if_neg a1, if_neg (fun z => hc z.2), if_pos g2]
theorem c_Tp_takeGuests {ks ss : Int → Int} {m : Nat} {who ties fl : Int} (hn : n ≤ 80) (hb : ∀ j : Nat, j < n → 32 ≤ b j ∧ b j ≤ 126) : zMet m_Tp_takeGuests [.inr (.inr 0), .inr (.inr 2)] (wTpCo b n p fl ks ss m who ties)
    (fun v wd => ∃ (p' : Nat) (fl' : Int) (ks' ss' : Int → Int) (m' : Nat), v = some (.inl fl') ∧ wd = wTpCo b 0 p' fl' ks' ss' m' who ties ∧ (-200 ≤ fl' ∧ fl' ≤ 0) ∧ zTQ (zTab b n 9 ks ss 0 0) fl' ks' ss' m') := by
  refine zMet.of (own := RX5) rfl (by decide +kernel) tk_Tp_takeGuests fok_Tp cok_Tp (Nat.le_of_ble_eq_true rfl) (fun G hG => ?_)
  refine hG.1 [] 80 _ _ _ _ ?_
  refine hG.2.1 (c_Co_clear ) yv_Co_clear lk_Tp_41 (by decide +kernel) rfl rfl [2, 3, 4] (by decide +kernel) rfl rfl rfl (Nat.le_of_ble_eq_true rfl) (fun v w2 hv hl2 => ?_)
  obtain ⟨rfl, rfl⟩ := hv
  refine hG.1 [] 80 _ _ _ _ ?_
  refine hG.2.1 (c_Tp_begin ) yv_Tp_begin lk_Tp_30 (by decide +kernel) rfl rfl [0, 1] (by decide +kernel) rfl rfl rfl (Nat.le_of_ble_eq_true rfl) (fun v w2 hv hl2 => ?_)
  obtain ⟨rfl, rfl⟩ := hv
  refine hG.1 [12] 80 _ _ _ _ ?_
  have key : ∀ d k : Nat, k + d = 10 → ∀ (q : Nat) (k1 s1 : Int → Int) (m1 : Nat), m1 + 1 = k → 1 ≤ d → q ≤ n → zTab b n d k1 s1 m1 q = zTab b n 9 ks ss 0 0 → G 12 [(0, .inr (.inr 0)), (1, .inr (.inr 2)), (2, .inl 1), (3, .inl (k : Int))] [] (wTpCo b n q 0 k1 s1 m1 who ties) := by
    intro d
    induction d with
    | zero => intro k hk q k1 s1 m1 h1 h2; omega
    | succ d ih =>
      intro k hk q k1 s1 m1 h1 _ hq he
      have he' : (match zGst b n q with
        | .inl f => .inl f
        | .inr r => if ¬ zSk b n r.2.2 < n then .inr (z_u k1 m1 r.1, (z_u s1 m1 r.2.1, m1 + 1)) else if b (zSk b n r.2.2) = 59 ∧ d ≠ 0 then zTab b n d (z_u k1 m1 r.1) (z_u s1 m1 r.2.1) (m1 + 1) (zSk b n r.2.2 + 1) else .inl (zSk b n r.2.2)) = zTab b n 9 ks ss 0 0 := he
      have hdi := zGst_in (b := b) hq
      refine hG.1 [] 80 _ _ _ _ ?_
      refine ⟨by omega, fun h3 => absurd h3 (by omega), fun h3 => ?_⟩
      refine ⟨by omega, fun h4 => absurd h4 (by omega), fun h4 => ?_⟩
      refine hG.2.1 (c_Tp_readGuest hn hq hb (show m1 < 9 by omega)) yv_Tp_readGuest lk_Tp_44 (by decide +kernel) rfl rfl [0, 1, 2, 3, 4] (by decide +kernel) rfl rfl rfl (Nat.le_of_ble_eq_true rfl) (fun v w2 hv hl2 => ?_)
      obtain ⟨rfl, p', fl', k', s', m', rfl, hp', hfl', hQ⟩ := hv
      have rest : ∀ m0 : Int, (m0 = 1 ∧ (k : Int) < 9) ∨ (m0 = 0 ∧ 9 ≤ (k : Int)) → G 41 [(0, .inr (.inr 0)), (1, .inr (.inr 2)), (2, .inl 1), (3, .inl (k : Int))] [.inl m0, .inl 59, .inr (.inr 0)] (wTpCo b n p' fl' k' s' m' who ties) := by
        intro m0 hm
        refine hG.2.1 (c_Tp_goesOn (x := 59) (m := m0) hn hp' hb (by omega) (by omega) (by omega)) yv_Tp_goesOn lk_Tp_37 (by decide +kernel) rfl rfl [0, 1] (by decide +kernel) rfl rfl rfl (Nat.le_of_ble_eq_true rfl) (fun v w2 hv hl2 => ?_)
        cases hz : zGst b n q with
        | inl f =>
          rw [hz] at hQ he' hdi
          have hQ : fl' = -20 - (f : Int) := hQ
          rcases hv with ⟨g1, rfl, rfl⟩ | ⟨g1, _⟩ | ⟨g1, _⟩ | ⟨g1, _⟩
          · refine hG.1 [] 80 _ _ _ _ ?_
            refine ⟨by omega, fun h5 => ?_, fun h5 => ?_⟩
            · refine ⟨trivial, p', fl', k', s', m', rfl, rfl, hfl', ?_⟩
              rw [← he']; exact hQ
            · refine ⟨by omega, fun h6 => ?_, fun h6 => absurd rfl h6⟩
              refine ⟨trivial, p', fl', k', s', m', rfl, rfl, hfl', ?_⟩
              rw [← he']; exact hQ
          all_goals omega
        | inr r =>
          rw [hz] at hQ he' hdi
          obtain ⟨rfl, rfl, rfl, rfl, rfl⟩ : fl' = 0 ∧ k' = z_u k1 m1 r.1 ∧ s' = z_u s1 m1 r.2.1 ∧ m' = m1 + 1 ∧ p' = r.2.2 := hQ
          dsimp only at he'
          rcases hv with ⟨g1, _⟩ | ⟨_, g1, rfl, rfl⟩ | ⟨_, g1, g2, rfl, rfl⟩ | ⟨_, g1, g2, g3, rfl, rfl⟩
          · exact absurd rfl g1
          · rw [if_pos g1] at he'
            refine hG.1 [] 80 _ _ _ _ ?_
            refine ⟨by omega, fun h5 => ?_, fun h5 => ?_⟩
            · refine ⟨trivial, _, _, _, _, _, rfl, rfl, hfl', ?_⟩
              rw [← he']; exact ⟨rfl, rfl, rfl, rfl⟩
            · refine ⟨by omega, fun h6 => ?_, fun h6 => absurd rfl h6⟩
              refine ⟨trivial, _, _, _, _, _, rfl, rfl, hfl', ?_⟩
              rw [← he']; exact ⟨rfl, rfl, rfl, rfl⟩
          · have hk2 := zSk_in (b := b) hp'
            rw [if_neg (by omega), if_neg (by omega)] at he'
            refine hG.1 [] 80 _ _ _ _ ?_
            refine ⟨by omega, fun h5 => ?_, fun h5 => ?_⟩
            · refine ⟨trivial, _, _, _, _, _, rfl, rfl, by omega, ?_⟩
              rw [← he']; rfl
            · refine ⟨by omega, fun h6 => ?_, fun h6 => absurd rfl h6⟩
              refine ⟨trivial, _, _, _, _, _, rfl, rfl, by omega, ?_⟩
              rw [← he']; rfl
          · rw [if_neg (by omega), if_pos (by omega)] at he'
            refine hG.1 [12] 80 _ _ _ _ ?_
            exact ih (k + 1) (by omega) _ _ _ _ (by omega) (by omega) (by omega) he'
      refine hG.1 [41] 80 _ _ _ _ ?_
      refine ⟨by omega, fun h5 => ?_, fun h5 => ?_⟩
      · exact rest 0 (by omega)
      · exact rest 1 (by omega)
  exact key 9 1 rfl 0 _ _ 0 (by omega) (by omega) (by omega) rfl
end Tp3
end
section
/-! NIGHTS of the class -/
theorem z_g_mid : ∀ (pre : zW) (c : zC) (post : zW), z_g (pre ++ c :: post) pre.length = some c
  | [], c, post => rfl
  | a :: pre, c, post => z_g_mid pre c post
theorem z_s_mid : ∀ (pre : zW) (c d : zC) (post : zW), z_s (pre ++ c :: post) pre.length d = pre ++ d :: post
  | [], c, d, post => rfl
  | a :: pre, c, d, post => congrArg (a :: ·) (z_s_mid pre c d post)
theorem z_emb (f : zC → zC) (post : zW) : ∀ (w pre : zW), (List.range' pre.length w.length).map (z_g (pre ++ (w.map f ++ post))) = w.map (fun c => some (f c))
  | [], pre => rfl
  | c :: w, pre => by
    have h := z_emb f post w (pre ++ [f c])
    simp only [List.length_append, List.length_cons, List.length_nil, Nat.zero_add, List.append_assoc, List.cons_append, List.nil_append] at h
    simp only [List.length_cons, List.range'_succ, List.map_cons, List.cons_append]
    rw [z_g_mid, h]
theorem z_embb (π : List Nat) (post : zW) : ∀ (w2 w pre : zW), w.length = w2.length → z_sct π (List.range' pre.length w2.length) w2 (pre ++ (w ++ post)) = pre ++ (w2.map (z_ren π) ++ post)
  | [], [], pre, _ => rfl
  | c :: w2, d :: w, pre, hl => by
    have h := z_embb π post w2 w (pre ++ [z_ren π c]) (by simpa using hl)
    simp only [List.length_append, List.length_cons, List.length_nil, Nat.zero_add, List.append_assoc, List.cons_append, List.nil_append] at h
    simp only [List.length_cons, List.range'_succ, List.map_cons, List.cons_append, z_sct]
    rw [z_s_mid, h]
theorem z_ren_id (n : Nat) (c : zC) : z_ren (List.range' 0 (n + 1)) c = c := by
  have hp : ∀ k, z_pl (List.range' 0 (n + 1)) k = k := fun k => by rw [z_pl_range]; omega
  have hv : ∀ v, z_rv (List.range' 0 (n + 1)) v = v := fun v => by
    rcases v with x | x | x
    · rfl
    · rfl
    · show Sum.inr (Sum.inr (z_pl _ x)) = _; rw [hp]
  rcases c with ⟨ci, fs⟩ | ⟨t, n, f | f | f⟩
  · show Sum.inl (ci, fs.map (z_rv _)) = _
    rw [List.map_congr_left (fun v _ => hv v), List.map_id']
  · rfl
  · rfl
  · show Sum.inr (t, (n, Sum.inr (Sum.inr (fun j => z_pl _ (f j))))) = _
    simp only [hp]
abbrev zCD : Type := (Int → Int) × ((Int → Int) × (Nat × (Int × Int)))
abbrev zCoC (o : Nat) (c : zCD) : zW := [.inl (0, [.inr (.inr (o + 1)), .inr (.inr (o + 2)), .inl (c.2.2.1 : Int), .inl c.2.2.2.1, .inl c.2.2.2.2]), .inr (0, (9, .inl c.1)), .inr (0, (9, .inl c.2.1))]
abbrev wCoD (c : zCD) : zW := wCo c.1 c.2.1 c.2.2.1 c.2.2.2.1 c.2.2.2.2
abbrev wCoD2 (c c' : zCD) : zW := wCo2 c.1 c.2.1 c.2.2.1 c.2.2.2.1 c.2.2.2.2 c'.1 c'.2.1 c'.2.2.1 c'.2.2.2.1 c'.2.2.2.2
def zCos (cs : Nat → zCD) : zW := zCoC 3 (cs 0) ++ (zCoC 6 (cs 1) ++ (zCoC 9 (cs 2) ++ (zCoC 12 (cs 3) ++ (zCoC 15 (cs 4) ++ (zCoC 18 (cs 5) ++ (zCoC 21 (cs 6) ++ (zCoC 24 (cs 7) ++ (zCoC 27 (cs 8) ++ (zCoC 30 (cs 9) ++ (zCoC 33 (cs 10) ++ (zCoC 36 (cs 11))))))))))))
def zCos2 (cs : Nat → zCD) : zW := zCoC 42 (cs 0) ++ (zCoC 45 (cs 1) ++ (zCoC 48 (cs 2) ++ (zCoC 51 (cs 3) ++ (zCoC 54 (cs 4) ++ (zCoC 57 (cs 5) ++ (zCoC 60 (cs 6) ++ (zCoC 63 (cs 7) ++ (zCoC 66 (cs 8) ++ (zCoC 69 (cs 9) ++ (zCoC 72 (cs 10) ++ (zCoC 75 (cs 11))))))))))))
abbrev wNi (su : Int → Int) (cs : Nat → zCD) (sz : Nat) : zW := .inl (1, [.inr (.inr 1), .inr (.inr 2), .inl (sz : Int)]) :: .inr (0, (12, .inl su)) :: .inr (0, (12, .inr (.inr (fun j => 3 + 3 * j.toNat)))) :: zCos cs
abbrev wNiCo (su : Int → Int) (cs : Nat → zCD) (sz : Nat) (c : zCD) : zW := wNi su cs sz ++ zCoC 39 c
abbrev wNi2 (su : Int → Int) (cs : Nat → zCD) (sz : Nat) (su' : Int → Int) (cs' : Nat → zCD) (sz' : Nat) : zW := wNi su cs sz ++ (.inl (1, [.inr (.inr 40), .inr (.inr 41), .inl (sz' : Int)]) :: .inr (0, (12, .inl su')) :: .inr (0, (12, .inr (.inr (fun j => 42 + 3 * j.toNat)))) :: zCos2 cs')
def z_un (cs : Nat → zCD) (i : Nat) (c : zCD) : Nat → zCD := fun k => if k = i then c else cs k
def zCpC (c c' : zCD) : zCD := (z_cpy c'.1 c.1 9, (z_cpy c'.2.1 c.2.1 9, c'.2.2))
def zOkC (c : zCD) : Prop := c.2.2.1 ≤ 9 ∧ (∀ j : Nat, j < c.2.2.1 → 0 ≤ c.2.1 j ∧ c.2.1 j ≤ 20) ∧ (0 ≤ c.2.2.2.1 ∧ c.2.2.2.1 ≤ 3) ∧ (0 ≤ c.2.2.2.2 ∧ c.2.2.2.2 ≤ 2)
theorem ni_pick {su : Int → Int} {cs : Nat → zCD} {sz : Nat} : ∀ (i : Nat), i < 12 → [3 + 3 * i, 3 + 3 * i + 1, 3 + 3 * i + 2].map (z_g (wNi su cs sz)) = (wCoD (cs i)).map (fun c => some (z_ren [3 + 3 * i, 3 + 3 * i + 1, 3 + 3 * i + 2] c))
  | 0, _ => rfl
  | 1, _ => rfl
  | 2, _ => rfl
  | 3, _ => rfl
  | 4, _ => rfl
  | 5, _ => rfl
  | 6, _ => rfl
  | 7, _ => rfl
  | 8, _ => rfl
  | 9, _ => rfl
  | 10, _ => rfl
  | 11, _ => rfl
  | i + 12, h => absurd h (by omega)
theorem ni_back {su : Int → Int} {cs : Nat → zCD} {sz : Nat} : ∀ (i : Nat), i < 12 → z_sct [3 + 3 * i, 3 + 3 * i + 1, 3 + 3 * i + 2] [3 + 3 * i, 3 + 3 * i + 1, 3 + 3 * i + 2] (wCoD (cs i)) (wNi su cs sz) = wNi su cs sz
  | 0, _ => rfl
  | 1, _ => rfl
  | 2, _ => rfl
  | 3, _ => rfl
  | 4, _ => rfl
  | 5, _ => rfl
  | 6, _ => rfl
  | 7, _ => rfl
  | 8, _ => rfl
  | 9, _ => rfl
  | 10, _ => rfl
  | 11, _ => rfl
  | i + 12, h => absurd h (by omega)
theorem ni_pickA {su : Int → Int} {cs : Nat → zCD} {sz : Nat} {c : zCD} : ∀ (i : Nat), i < 12 → [3 + 3 * i, 3 + 3 * i + 1, 3 + 3 * i + 2, 39, 40, 41].map (z_g (wNiCo su cs sz c)) = (wCoD2 (cs i) c).map (fun c => some (z_ren [3 + 3 * i, 3 + 3 * i + 1, 3 + 3 * i + 2, 39, 40, 41] c))
  | 0, _ => rfl
  | 1, _ => rfl
  | 2, _ => rfl
  | 3, _ => rfl
  | 4, _ => rfl
  | 5, _ => rfl
  | 6, _ => rfl
  | 7, _ => rfl
  | 8, _ => rfl
  | 9, _ => rfl
  | 10, _ => rfl
  | 11, _ => rfl
  | i + 12, h => absurd h (by omega)
theorem ni_putA {su : Int → Int} {cs : Nat → zCD} {sz : Nat} {c d : zCD} : ∀ (i : Nat), i < 12 → z_sct [3 + 3 * i, 3 + 3 * i + 1, 3 + 3 * i + 2, 39, 40, 41] [3 + 3 * i, 3 + 3 * i + 1, 3 + 3 * i + 2, 39, 40, 41] (wCoD2 d c) (wNiCo su cs sz c) = wNiCo su (z_un cs i d) sz c
  | 0, _ => rfl
  | 1, _ => rfl
  | 2, _ => rfl
  | 3, _ => rfl
  | 4, _ => rfl
  | 5, _ => rfl
  | 6, _ => rfl
  | 7, _ => rfl
  | 8, _ => rfl
  | 9, _ => rfl
  | 10, _ => rfl
  | 11, _ => rfl
  | i + 12, h => absurd h (by omega)
theorem ni_pickC {su : Int → Int} {cs : Nat → zCD} {sz : Nat} {su' : Int → Int} {cs' : Nat → zCD} {sz' : Nat} : ∀ (i : Nat), i < 12 → [3 + 3 * i, 3 + 3 * i + 1, 3 + 3 * i + 2, 42 + 3 * i, 42 + 3 * i + 1, 42 + 3 * i + 2].map (z_g (wNi2 su cs sz su' cs' sz')) = (wCoD2 (cs i) (cs' i)).map (fun c => some (z_ren [3 + 3 * i, 3 + 3 * i + 1, 3 + 3 * i + 2, 42 + 3 * i, 42 + 3 * i + 1, 42 + 3 * i + 2] c))
  | 0, _ => rfl
  | 1, _ => rfl
  | 2, _ => rfl
  | 3, _ => rfl
  | 4, _ => rfl
  | 5, _ => rfl
  | 6, _ => rfl
  | 7, _ => rfl
  | 8, _ => rfl
  | 9, _ => rfl
  | 10, _ => rfl
  | 11, _ => rfl
  | i + 12, h => absurd h (by omega)
theorem ni_putC {su : Int → Int} {cs : Nat → zCD} {sz : Nat} {su' : Int → Int} {cs' : Nat → zCD} {sz' : Nat} {d : zCD} : ∀ (i : Nat), i < 12 → z_sct [3 + 3 * i, 3 + 3 * i + 1, 3 + 3 * i + 2, 42 + 3 * i, 42 + 3 * i + 1, 42 + 3 * i + 2] [3 + 3 * i, 3 + 3 * i + 1, 3 + 3 * i + 2, 42 + 3 * i, 42 + 3 * i + 1, 42 + 3 * i + 2] (wCoD2 d (cs' i)) (wNi2 su cs sz su' cs' sz') = wNi2 su (z_un cs i d) sz su' cs' sz'
  | 0, _ => rfl
  | 1, _ => rfl
  | 2, _ => rfl
  | 3, _ => rfl
  | 4, _ => rfl
  | 5, _ => rfl
  | 6, _ => rfl
  | 7, _ => rfl
  | 8, _ => rfl
  | 9, _ => rfl
  | 10, _ => rfl
  | 11, _ => rfl
  | i + 12, h => absurd h (by omega)
theorem ni_id {su : Int → Int} {cs : Nat → zCD} {sz : Nat} : (List.range' 0 39).map (z_g (wNi su cs sz)) = (wNi su cs sz).map (fun c => some (z_ren (List.range' 0 39) c)) := by
  have h := z_emb (fun c => c) [] (wNi su cs sz) []
  simp only [List.map_id', List.append_nil, List.nil_append] at h
  simp only [z_ren_id 38]
  exact h
theorem ni_idb {su : Int → Int} {cs : Nat → zCD} {sz : Nat} : z_sct (List.range' 0 39) (List.range' 0 39) (wNi su cs sz) (wNi su cs sz) = wNi su cs sz := by
  have h := z_embb (List.range' 0 39) [] (wNi su cs sz) (wNi su cs sz) [] rfl
  have e : (wNi su cs sz).map (z_ren (List.range' 0 39)) = wNi su cs sz := by
    rw [List.map_congr_left (fun c _ => z_ren_id 38 c), List.map_id']
  rw [e] at h
  simp only [List.append_nil, List.nil_append] at h
  exact h
end
section
/-! NIGHTS of the class: contracts -/
def zKnew (su : Int → Int) (cs : Nat → zCD) (sz g : Nat) : Prop := 0 < sz ∧ ∀ i, i < sz → g < (cs i).2.2.1 ∧ (cs i).2.1 g = su i
noncomputable def zKnewB (su : Int → Int) (cs : Nat → zCD) (sz : Nat) : Nat → Bool := fun g => @decide (zKnew su cs sz g) (Classical.propDecidable _)
noncomputable def zShD (c : zCD) (sum : Int) (g : Nat) : Int := zSh c.2.1 c.2.2.1 c.2.2.2.1 c.2.2.2.2 sum g (zFree c.2.1 c.2.2.1 c.2.2.2.1)
def zPaid (su : Int → Int) (cs : Nat → zCD) (sz g : Nat) : Prop := 0 < sz ∧ ∀ i, i < sz → zShD (cs i) (su i) g ≠ 0
def zBtw (cs : Nat → zCD) (sz g a b : Nat) : Prop := ∀ i, i < sz → a < (cs i).2.2.1 ∧ b < (cs i).2.2.1 ∧ (((cs i).2.1 a < (cs i).2.1 g ∧ (cs i).2.1 g < (cs i).2.1 b) ∨ ((cs i).2.1 b < (cs i).2.1 g ∧ (cs i).2.1 g < (cs i).2.1 a))
noncomputable def zPrB (B : Nat → Nat → Prop) (a : Nat) : Nat → Nat
  | 0 => 0
  | b + 1 => zPrB B a b + @ite _ (a < b ∧ B a b) (Classical.propDecidable _) 1 0
noncomputable def zPrA (B : Nat → Nat → Prop) : Nat → Nat
  | 0 => 0
  | a + 1 => zPrA B a + zPrB B a 9
theorem zPrB_0 (B : Nat → Nat → Prop) (a : Nat) : ∀ b, b ≤ a + 1 → zPrB B a b = 0
  | 0, _ => rfl
  | b + 1, h => by
    unfold zPrB
    rw [zPrB_0 B a b (by omega), if_neg (fun z => by omega)]
def zFirst (B : Nat → Nat → Prop) (N : Nat) (r : Int) : Prop := (r = -1 ∧ ∀ a b : Nat, a < b → b < N → ¬ B a b) ∨ ∃ a b : Nat, a < b ∧ b < N ∧ B a b ∧ r = 10 * (a : Int) + b ∧ ∀ a' b' : Nat, a' < b' → b' < N → (a' < a ∨ (a' = a ∧ b' < b)) → ¬ B a' b'
theorem z_nd3 (i : Nat) : [3 + 3 * i, 3 + 3 * i + 1, 3 + 3 * i + 2].Nodup := by
  simp
theorem z_nd6 {i : Nat} (h : i < 12) : [3 + 3 * i, 3 + 3 * i + 1, 3 + 3 * i + 2, 39, 40, 41].Nodup := by
  simp; omega
theorem z_nd6c {i : Nat} (h : i < 12) : [3 + 3 * i, 3 + 3 * i + 1, 3 + 3 * i + 2, 42 + 3 * i, 42 + 3 * i + 1, 42 + 3 * i + 2].Nodup := by
  simp; omega
section Ni
variable {su : Int → Int} {cs : Nat → zCD} {sz : Nat}
theorem c_Ni_size : zMet m_Ni_size [.inr (.inr 0)] (wNi su cs sz) (fun v w => v = some (.inl (sz : Int)) ∧ w = wNi su cs sz) := by
  refine zMet.of (own := RX1) rfl (by decide +kernel) tk_Ni_size fok_Ni cok_Ni (Nat.le_of_ble_eq_true rfl) (fun G hG => ?_)
  refine hG.1 [] 80 _ _ _ _ ?_
  exact ⟨trivial, rfl, rfl⟩
theorem c_Ni_clear : zMet m_Ni_clear [.inr (.inr 0)] (wNi su cs sz) (fun v w => v = none ∧ w = wNi su cs 0) := by
  refine zMet.of (own := RX1) rfl (by decide +kernel) tk_Ni_clear fok_Ni cok_Ni (Nat.le_of_ble_eq_true rfl) (fun G hG => ?_)
  refine hG.1 [] 80 _ _ _ _ ?_
  exact ⟨trivial, rfl, rfl⟩
theorem c_Ni_append {x : Int} {c : zCD} (hz : sz < 12) : zMet m_Ni_append [.inr (.inr 0), .inl x, .inr (.inr 39)] (wNiCo su cs sz c) (fun v w => v = none ∧ w = wNiCo (z_u su sz x) (z_un cs sz (zCpC (cs sz) c)) (sz + 1) c) := by
  refine zMet.of (own := RX1) rfl (by decide +kernel) tk_Ni_append fok_Ni cok_Ni (Nat.le_of_ble_eq_true rfl) (fun G hG => ?_)
  refine hG.1 [] 80 _ _ _ _ ?_
  refine ⟨by omega, fun h1 => absurd h1 (by omega), fun h1 => ?_⟩
  refine ⟨by omega, by omega, ?_⟩
  refine hG.2.1 (c_Co_copyFrom (ks := (cs sz).1) (ss := (cs sz).2.1) (n := (cs sz).2.2.1) (who := (cs sz).2.2.2.1) (ties := (cs sz).2.2.2.2) (ks' := c.1) (ss' := c.2.1) (n' := c.2.2.1) (who' := c.2.2.2.1) (ties' := c.2.2.2.2)) yv_Co_copyFrom lk_Ni_26 (by decide +kernel) rfl rfl [3 + 3 * sz, 3 + 3 * sz + 1, 3 + 3 * sz + 2, 39, 40, 41] (z_nd6 hz) (ni_pickA (su := z_u su sz x) sz hz) rfl rfl (Nat.le_of_ble_eq_true rfl) (fun v w2 hv hl2 => ?_)
  obtain ⟨rfl, rfl⟩ := hv
  have e := ni_putA (su := z_u su sz x) (cs := cs) (sz := sz) (c := c) (d := zCpC (cs sz) c) sz hz
  suffices L : G 32 [(0, .inr (.inr 0)), (1, .inl x), (2, .inr (.inr 39))] [] (wNiCo (z_u su sz x) (z_un cs sz (zCpC (cs sz) c)) sz c) by
    rw [← e] at L; exact L
  refine hG.1 [] 80 _ _ _ _ ?_
  exact ⟨trivial, rfl, rfl⟩
theorem c_Ni_alwaysKnew {g : Nat} (hg : g < 100) (hz : sz ≤ 12) (hc : ∀ i, i < sz → zOkC (cs i)) (hs : ∀ i : Nat, i < sz → 0 ≤ su i ∧ su i ≤ 20) :
    zMet m_Ni_alwaysKnew [.inr (.inr 0), .inl g] (wNi su cs sz) (fun v w => z_bool (zKnew su cs sz g) v ∧ w = wNi su cs sz) := by
  refine zMet.of (own := RX1) rfl (by decide +kernel) tk_Ni_alwaysKnew fok_Ni cok_Ni (Nat.le_of_ble_eq_true rfl) (fun G hG => ?_)
  refine hG.1 [2] 80 _ _ _ _ ?_
  suffices L : ∀ i, i ≤ sz → ((∀ o, o < i → g < (cs o).2.2.1 ∧ (cs o).2.1 g = su o) → G 2 [(0, .inr (.inr 0)), (1, .inl (g : Int)), (2, .inl (i : Int))] [] (wNi su cs sz)) from L 0 (by omega) (fun o h => by omega)
  refine z_up (fun hb => ?_) (fun i hi ih hb => ?_)
  · refine hG.1 [] 80 _ _ _ _ ?_
    refine ⟨by omega, fun h1 => ?_, fun h1 => absurd h1 (by omega)⟩
    refine ⟨by omega, fun h2 => ?_, fun h2 => ?_⟩
    · exact ⟨Or.inl rfl, Or.inr ⟨fun z => by have := z.1; omega, rfl⟩, rfl⟩
    · exact ⟨Or.inr rfl, Or.inl ⟨⟨by omega, hb⟩, rfl⟩, rfl⟩
  · obtain ⟨k1, k2, k3, k4⟩ := hc i hi
    have k5 := hs i hi
    have out : ¬ (g < (cs i).2.2.1 ∧ (cs i).2.1 g = su i) → z_bool (zKnew su cs sz g) (some (.inl 0)) := fun h => Or.inr ⟨fun z => h (z.2 i hi), rfl⟩
    refine hG.1 [2] 80 _ _ _ _ ?_
    refine ⟨by omega, fun h1 => absurd h1 (by omega), fun h1 => ?_⟩
    refine ⟨by omega, ?_⟩
    refine hG.2.1 (c_Co_has (ks := (cs i).1) (ss := (cs i).2.1) (n := (cs i).2.2.1) (who := (cs i).2.2.2.1) (ties := (cs i).2.2.2.2) (g := (g : Int)) (by omega) k1) yv_Co_has lk_Ni_34 (by decide +kernel) rfl rfl [3 + 3 * i, 3 + 3 * i + 1, 3 + 3 * i + 2] (z_nd3 i) (ni_pick i (by omega)) rfl rfl (Nat.le_of_ble_eq_true rfl) (fun v w2 hv hl2 => ?_)
    obtain ⟨hv, rfl⟩ := hv
    rw [ni_back i (by omega)]
    rcases hv with ⟨hc1, rfl⟩ | ⟨hc1, rfl⟩
    · refine hG.1 [2] 80 _ _ _ _ ?_
      refine ⟨by omega, fun h2 => absurd h2 (by omega), fun h2 => ?_⟩
      refine ⟨by omega, ?_⟩
      refine hG.2.1 (c_Co_slipOf (ks := (cs i).1) (ss := (cs i).2.1) (n := (cs i).2.2.1) (who := (cs i).2.2.2.1) (ties := (cs i).2.2.2.2) (g := g) (by omega) k1) yv_Co_slipOf lk_Ni_37 (by decide +kernel) rfl rfl [3 + 3 * i, 3 + 3 * i + 1, 3 + 3 * i + 2] (z_nd3 i) (ni_pick i (by omega)) rfl rfl (Nat.le_of_ble_eq_true rfl) (fun v w2 hv hl2 => ?_)
      obtain ⟨rfl, rfl⟩ := hv
      rw [ni_back i (by omega)]
      have k6 := k2 g (by omega)
      refine hG.1 [2] 80 _ _ _ _ ?_
      refine ⟨by omega, by omega, fun h3 => ?_, fun h3 => ?_⟩
      · exact ih (fun o ho => by
          rcases Nat.lt_succ_iff_lt_or_eq.mp ho with h | rfl
          · exact hb o h
          · exact ⟨by omega, h3⟩)
      · exact ⟨Or.inl rfl, out (fun z => h3 z.2), rfl⟩
    · refine hG.1 [2] 80 _ _ _ _ ?_
      refine ⟨by omega, fun h2 => ?_, fun h2 => absurd rfl h2⟩
      exact ⟨Or.inl rfl, out (fun z => hc1 (by omega)), rfl⟩
theorem c_Ni_knowers (hz : sz ≤ 12) (hc : ∀ i, i < sz → zOkC (cs i)) (hs : ∀ i : Nat, i < sz → 0 ≤ su i ∧ su i ≤ 20) :
    zMet m_Ni_knowers [.inr (.inr 0)] (wNi su cs sz) (fun v w => v = some (.inl (zMaskN (zKnewB su cs sz) 9 : Int)) ∧ w = wNi su cs sz) := by
  refine zMet.of (own := RX1) rfl (by decide +kernel) tk_Ni_knowers fok_Ni cok_Ni (Nat.le_of_ble_eq_true rfl) (fun G hG => ?_)
  refine hG.1 [4] 80 _ _ _ _ ?_
  refine z_up0 (n := 9) (P := fun i : Nat => G 4 [(0, .inr (.inr 0)), (1, .inl (zMaskN (zKnewB su cs sz) i : Int)), (2, .inl (i : Int))] [] (wNi su cs sz)) ?_ (fun i hi ih => ?_)
  · refine hG.1 [] 80 _ _ _ _ ?_
    refine ⟨by omega, fun h1 => ?_, fun h1 => absurd h1 (by omega)⟩
    exact ⟨trivial, rfl, rfl⟩
  · refine hG.1 [4] 80 _ _ _ _ ?_
    refine ⟨by omega, fun h1 => absurd h1 (by omega), fun h1 => ?_⟩
    refine hG.2.1 (c_Ni_alwaysKnew (g := i) (by omega) hz hc hs) yv_Ni_alwaysKnew lk_Ni_30 (by decide +kernel) rfl rfl (List.range' 0 39) (by decide +kernel) ni_id rfl rfl (Nat.le_of_ble_eq_true rfl) (fun v w2 hv hl2 => ?_)
    rw [hv.2, ni_idb]
    have hv := hv.1
    have e : zMaskN (zKnewB su cs sz) (i + 1) = zMaskN (zKnewB su cs sz) i + (if zKnewB su cs sz i = true then 2 ^ i else 0) := rfl
    have hp : zKnewB su cs sz i = @decide (zKnew su cs sz i) (Classical.propDecidable _) := rfl
    rcases hv with ⟨hc1, rfl⟩ | ⟨hc1, rfl⟩
    · refine hG.1 [4] 80 _ _ _ _ ?_
      refine ⟨by omega, fun h2 => absurd h2 (by omega), fun h2 => ?_⟩
      rw [e, hp, if_pos (by simpa using hc1), ← z_bits1 i (by omega) _ (zMaskN_lt _ i)] at ih
      exact ⟨by omega, ih⟩
    · refine hG.1 [4] 80 _ _ _ _ ?_
      refine ⟨by omega, fun h2 => ?_, fun h2 => absurd rfl h2⟩
      rw [e, hp, if_neg (by simpa using hc1)] at ih
      exact ih
theorem c_Ni_alwaysPaid {g : Nat} (hg : g < 100) (hz : sz ≤ 12) (hc : ∀ i, i < sz → zOkC (cs i)) (hs : ∀ i : Nat, i < sz → 0 ≤ su i ∧ su i ≤ 20) :
    zMet m_Ni_alwaysPaid [.inr (.inr 0), .inl g] (wNi su cs sz) (fun v w => z_bool (zPaid su cs sz g) v ∧ w = wNi su cs sz) := by
  refine zMet.of (own := RX1) rfl (by decide +kernel) tk_Ni_alwaysPaid fok_Ni cok_Ni (Nat.le_of_ble_eq_true rfl) (fun G hG => ?_)
  refine hG.1 [2] 80 _ _ _ _ ?_
  suffices L : ∀ i, i ≤ sz → ((∀ o, o < i → zShD (cs o) (su o) g ≠ 0) → G 2 [(0, .inr (.inr 0)), (1, .inl (g : Int)), (2, .inl (i : Int))] [] (wNi su cs sz)) from L 0 (by omega) (fun o h => by omega)
  refine z_up (fun hb => ?_) (fun i hi ih hb => ?_)
  · refine hG.1 [] 80 _ _ _ _ ?_
    refine ⟨by omega, fun h1 => ?_, fun h1 => absurd h1 (by omega)⟩
    refine ⟨by omega, fun h2 => ?_, fun h2 => ?_⟩
    · exact ⟨Or.inl rfl, Or.inr ⟨fun z => by have := z.1; omega, rfl⟩, rfl⟩
    · exact ⟨Or.inr rfl, Or.inl ⟨⟨by omega, hb⟩, rfl⟩, rfl⟩
  · obtain ⟨k1, k2, k3, k4⟩ := hc i hi
    have k5 := hs i hi
    have hfr := zFree_in (cs i).2.1 (cs i).2.2.1 (cs i).2.2.2.1
    have hsh := zSh_in (cs i).2.1 (cs i).2.2.1 (cs i).2.2.2.1 (cs i).2.2.2.2 (su i) g (zFree (cs i).2.1 (cs i).2.2.1 (cs i).2.2.2.1)
    refine hG.1 [2] 80 _ _ _ _ ?_
    refine ⟨by omega, fun h1 => absurd h1 (by omega), fun h1 => ?_⟩
    refine ⟨by omega, by omega, ?_⟩
    refine hG.2.1 (c_Co_freeGuest (ks := (cs i).1) (ss := (cs i).2.1) (n := (cs i).2.2.1) (who := (cs i).2.2.2.1) (ties := (cs i).2.2.2.2) k1 k3 k2) yv_Co_freeGuest lk_Ni_48 (by decide +kernel) rfl rfl [3 + 3 * i, 3 + 3 * i + 1, 3 + 3 * i + 2] (z_nd3 i) (ni_pick i (by omega)) rfl rfl (Nat.le_of_ble_eq_true rfl) (fun v w2 hv hl2 => ?_)
    obtain ⟨rfl, rfl⟩ := hv
    rw [ni_back i (by omega)]
    refine hG.2.1 (c_Co_share (ks := (cs i).1) (ss := (cs i).2.1) (n := (cs i).2.2.1) (who := (cs i).2.2.2.1) (ties := (cs i).2.2.2.2) (g := g) (sum := su i) (free := zFree (cs i).2.1 (cs i).2.2.1 (cs i).2.2.2.1) (by omega) k1 k3 k4 k2 k5 (by omega)) yv_Co_share lk_Ni_52 (by decide +kernel) rfl rfl [3 + 3 * i, 3 + 3 * i + 1, 3 + 3 * i + 2] (z_nd3 i) (ni_pick i (by omega)) rfl rfl (Nat.le_of_ble_eq_true rfl) (fun v w2 hv hl2 => ?_)
    obtain ⟨rfl, rfl⟩ := hv
    rw [ni_back i (by omega)]
    refine hG.1 [2] 80 _ _ _ _ ?_
    refine ⟨by omega, fun h2 => ?_, fun h2 => ?_⟩
    · exact hG.2.2.2.2.1 (fun q hq => List.mem_append_left _ hq) (ih (fun o ho => by
        rcases Nat.lt_succ_iff_lt_or_eq.mp ho with h | rfl
        · exact hb o h
        · exact h2))
    · exact ⟨Or.inl rfl, Or.inr ⟨fun z => z.2 i hi h2, rfl⟩, rfl⟩
theorem c_Ni_alwaysBetween {g a b : Nat} (hg : ∀ i, i < sz → g < (cs i).2.2.1) (ha : a < 100) (hb0 : b < 100) (hz : sz ≤ 12) (hc : ∀ i, i < sz → zOkC (cs i)) :
    zMet m_Ni_alwaysBetween [.inr (.inr 0), .inl g, .inl a, .inl b] (wNi su cs sz) (fun v w => z_bool (zBtw cs sz g a b) v ∧ w = wNi su cs sz) := by
  refine zMet.of (own := RX1) rfl (by decide +kernel) tk_Ni_alwaysBetween fok_Ni cok_Ni (Nat.le_of_ble_eq_true rfl) (fun G hG => ?_)
  refine hG.1 [3] 80 _ _ _ _ ?_
  suffices L : ∀ i, i ≤ sz → (zBtw cs i g a b → G 3 [(0, .inr (.inr 0)), (1, .inl (g : Int)), (2, .inl (a : Int)), (3, .inl (b : Int)), (4, .inl (i : Int))] [] (wNi su cs sz)) from L 0 (by omega) (fun o h => by omega)
  refine z_up (fun hb => ?_) (fun i hi ih hb => ?_)
  · refine hG.1 [] 80 _ _ _ _ ?_
    refine ⟨by omega, fun h1 => ?_, fun h1 => absurd h1 (by omega)⟩
    exact ⟨Or.inr rfl, Or.inl ⟨hb, rfl⟩, rfl⟩
  · obtain ⟨k1, k2, k3, k4⟩ := hc i hi
    have hgi := hg i hi
    have out : ¬ (a < (cs i).2.2.1 ∧ b < (cs i).2.2.1 ∧ (((cs i).2.1 a < (cs i).2.1 g ∧ (cs i).2.1 g < (cs i).2.1 b) ∨ ((cs i).2.1 b < (cs i).2.1 g ∧ (cs i).2.1 g < (cs i).2.1 a))) → z_bool (zBtw cs sz g a b) (some (.inl 0)) := fun h => Or.inr ⟨fun z => h (z i hi), rfl⟩
    refine hG.1 [3] 80 _ _ _ _ ?_
    refine ⟨by omega, fun h1 => absurd h1 (by omega), fun h1 => ?_⟩
    refine ⟨by omega, ?_⟩
    refine hG.2.1 (c_Co_has (ks := (cs i).1) (ss := (cs i).2.1) (n := (cs i).2.2.1) (who := (cs i).2.2.2.1) (ties := (cs i).2.2.2.2) (g := (a : Int)) (by omega) k1) yv_Co_has lk_Ni_34 (by decide +kernel) rfl rfl [3 + 3 * i, 3 + 3 * i + 1, 3 + 3 * i + 2] (z_nd3 i) (ni_pick i (by omega)) rfl rfl (Nat.le_of_ble_eq_true rfl) (fun v w2 hv hl2 => ?_)
    obtain ⟨hv, rfl⟩ := hv
    rw [ni_back i (by omega)]
    rcases hv with ⟨hc1, rfl⟩ | ⟨hc1, rfl⟩
    · refine hG.1 [3] 80 _ _ _ _ ?_
      refine ⟨by omega, fun h2 => absurd h2 (by omega), fun h2 => ?_⟩
      refine hG.2.1 (c_Co_has (ks := (cs i).1) (ss := (cs i).2.1) (n := (cs i).2.2.1) (who := (cs i).2.2.2.1) (ties := (cs i).2.2.2.2) (g := (b : Int)) (by omega) k1) yv_Co_has lk_Ni_34 (by decide +kernel) rfl rfl [3 + 3 * i, 3 + 3 * i + 1, 3 + 3 * i + 2] (z_nd3 i) (ni_pick i (by omega)) rfl rfl (Nat.le_of_ble_eq_true rfl) (fun v w2 hv hl2 => ?_)
      obtain ⟨hv, rfl⟩ := hv
      rw [ni_back i (by omega)]
      rcases hv with ⟨hc2, rfl⟩ | ⟨hc2, rfl⟩
      · refine hG.1 [3] 80 _ _ _ _ ?_
        refine ⟨by omega, fun h3 => absurd h3 (by omega), fun h3 => ?_⟩
        refine hG.2.1 (c_Co_isBetween (ks := (cs i).1) (ss := (cs i).2.1) (n := (cs i).2.2.1) (who := (cs i).2.2.2.1) (ties := (cs i).2.2.2.2) (g := g) (a := a) (b := b) hgi (by omega) (by omega) k1 k2) yv_Co_isBetween lk_Ni_56 (by decide +kernel) rfl rfl [3 + 3 * i, 3 + 3 * i + 1, 3 + 3 * i + 2] (z_nd3 i) (ni_pick i (by omega)) rfl rfl (Nat.le_of_ble_eq_true rfl) (fun v w2 hv hl2 => ?_)
        obtain ⟨hv, rfl⟩ := hv
        rw [ni_back i (by omega)]
        rcases hv with ⟨hc3, rfl⟩ | ⟨hc3, rfl⟩
        · refine hG.1 [3] 80 _ _ _ _ ?_
          refine ⟨by omega, fun h4 => ?_, fun h4 => absurd h4 (by omega)⟩
          exact hG.2.2.2.2.1 (fun q hq => List.mem_append_left _ hq) (ih (fun o ho => by
            rcases Nat.lt_succ_iff_lt_or_eq.mp ho with h | rfl
            · exact hb o h
            · exact ⟨by omega, by omega, hc3⟩))
        · refine hG.1 [3] 80 _ _ _ _ ?_
          refine ⟨by omega, fun h4 => absurd rfl h4, fun h4 => ?_⟩
          exact ⟨Or.inl rfl, out (fun z => hc3 z.2.2), rfl⟩
      · refine hG.1 [3] 80 _ _ _ _ ?_
        refine ⟨by omega, fun h3 => ?_, fun h3 => absurd rfl h3⟩
        exact ⟨Or.inl rfl, out (fun z => hc2 (by omega)), rfl⟩
    · refine hG.1 [3] 80 _ _ _ _ ?_
      refine ⟨by omega, fun h2 => ?_, fun h2 => absurd rfl h2⟩
      exact ⟨Or.inl rfl, out (fun z => hc1 (by omega)), rfl⟩
theorem zSh_has {c : zCD} {sum : Int} {g : Nat} (h : zShD c sum g ≠ 0) : g < c.2.2.1 := by
  unfold zShD zSh at h
  by_cases hg : c.2.2.1 ≤ g
  · rw [if_pos (Or.inl hg)] at h; exact absurd rfl h
  · omega
theorem c_Ni_pairsAgainst {g : Nat} (hg : g < 100) (hz : sz ≤ 12) (hc : ∀ i, i < sz → zOkC (cs i)) (hs : ∀ i : Nat, i < sz → 0 ≤ su i ∧ su i ≤ 20) :
    zMet m_Ni_pairsAgainst [.inr (.inr 0), .inl g] (wNi su cs sz) (fun v w => ((zPaid su cs sz g ∧ v = some (.inl (zPrA (zBtw cs sz g) 9 : Int))) ∨ (¬ zPaid su cs sz g ∧ v = some (.inl 0))) ∧ w = wNi su cs sz) := by
  refine zMet.of (own := RX1) rfl (by decide +kernel) tk_Ni_pairsAgainst fok_Ni cok_Ni (Nat.le_of_ble_eq_true rfl) (fun G hG => ?_)
  refine hG.1 [] 80 _ _ _ _ ?_
  refine hG.2.1 (c_Ni_alwaysPaid (g := g) hg hz hc hs) yv_Ni_alwaysPaid lk_Ni_41 (by decide +kernel) rfl rfl (List.range' 0 39) (by decide +kernel) ni_id rfl rfl (Nat.le_of_ble_eq_true rfl) (fun v w2 hv hl2 => ?_)
  rw [hv.2, ni_idb]
  have hv := hv.1
  rcases hv with ⟨hc1, rfl⟩ | ⟨hc1, rfl⟩
  · have hgi : ∀ i, i < sz → g < (cs i).2.2.1 := fun i hi => zSh_has (hc1.2 i hi)
    refine hG.1 [12] 80 _ _ _ _ ?_
    refine ⟨by omega, fun h1 => absurd h1 (by omega), fun h1 => ?_⟩
    refine z_up0 (n := 9) (P := fun a : Nat => G 12 [(0, .inr (.inr 0)), (1, .inl (g : Int)), (2, .inl (zPrA (zBtw cs sz g) a : Int)), (3, .inl (a : Int))] [] (wNi su cs sz)) ?_ (fun a ha ih => ?_)
    · refine hG.1 [] 80 _ _ _ _ ?_
      refine ⟨by omega, fun h2 => ?_, fun h2 => absurd h2 (by omega)⟩
      exact ⟨trivial, Or.inl ⟨hc1, rfl⟩, rfl⟩
    · refine hG.1 [23] 80 _ _ _ _ ?_
      refine ⟨by omega, fun h2 => absurd h2 (by omega), fun h2 => ?_⟩
      have inner : ∀ b, b ≤ 9 → G 23 [(0, .inr (.inr 0)), (1, .inl (g : Int)), (2, .inl ((zPrA (zBtw cs sz g) a + zPrB (zBtw cs sz g) a b : Nat) : Int)), (3, .inl (a : Int)), (4, .inl (b : Int))] [] (wNi su cs sz) ∨ b ≤ a := by
        refine z_up (P := fun b => G 23 [(0, .inr (.inr 0)), (1, .inl (g : Int)), (2, .inl ((zPrA (zBtw cs sz g) a + zPrB (zBtw cs sz g) a b : Nat) : Int)), (3, .inl (a : Int)), (4, .inl (b : Int))] [] (wNi su cs sz) ∨ b ≤ a) ?_ (fun b hb ihb => ?_)
        · refine Or.inl ?_
          refine hG.1 [12] 80 _ _ _ _ ?_
          refine ⟨by omega, fun h3 => ?_, fun h3 => absurd h3 (by omega)⟩
          exact hG.2.2.2.2.1 (fun q hq => List.mem_append_left _ hq) ih
        · rcases Nat.lt_or_ge a b with hab | hab
          · refine Or.inl ?_
            have ihb := ihb.resolve_right (by omega)
            have e : zPrB (zBtw cs sz g) a (b + 1) = zPrB (zBtw cs sz g) a b + @ite _ (a < b ∧ zBtw cs sz g a b) (Classical.propDecidable _) 1 0 := rfl
            refine hG.1 [23] 80 _ _ _ _ ?_
            refine ⟨by omega, fun h3 => absurd h3 (by omega), fun h3 => ?_⟩
            refine hG.2.1 (c_Ni_alwaysBetween (g := g) (a := a) (b := b) hgi (by omega) (by omega) hz hc) yv_Ni_alwaysBetween lk_Ni_44 (by decide +kernel) rfl rfl (List.range' 0 39) (by decide +kernel) ni_id rfl rfl (Nat.le_of_ble_eq_true rfl) (fun v w2 hv hl2 => ?_)
            rw [hv.2, ni_idb]
            have hv := hv.1
            rcases hv with ⟨hc2, rfl⟩ | ⟨hc2, rfl⟩
            · rw [e, if_pos ⟨hab, hc2⟩] at ihb
              refine hG.1 [23] 80 _ _ _ _ ?_
              exact ⟨by omega, fun h4 => absurd h4 (by omega), fun h4 => ihb⟩
            · rw [e, if_neg (fun z => hc2 z.2)] at ihb
              refine hG.1 [23] 80 _ _ _ _ ?_
              exact ⟨by omega, fun h4 => ihb, fun h4 => absurd rfl h4⟩
          · exact Or.inr hab
      have h5 := (inner (a + 1) (by omega)).resolve_right (by omega)
      rw [zPrB_0 _ a (a + 1) (by omega)] at h5
      exact h5
  · refine hG.1 [] 80 _ _ _ _ ?_
    refine ⟨by omega, fun h1 => ?_, fun h1 => absurd rfl h1⟩
    exact ⟨trivial, Or.inr ⟨hc1, rfl⟩, rfl⟩
theorem c_Ni_firstPairAgainst {g : Nat} (hg : g < 100) (hz : sz ≤ 12) (hc : ∀ i, i < sz → zOkC (cs i)) (hs : ∀ i : Nat, i < sz → 0 ≤ su i ∧ su i ≤ 20) :
    zMet m_Ni_firstPairAgainst [.inr (.inr 0), .inl g] (wNi su cs sz) (fun v w => ((zPaid su cs sz g ∧ ∃ r, v = some (.inl r) ∧ zFirst (zBtw cs sz g) 9 r) ∨ (¬ zPaid su cs sz g ∧ v = some (.inl (-1)))) ∧ w = wNi su cs sz) := by
  refine zMet.of (own := RX1) rfl (by decide +kernel) tk_Ni_firstPairAgainst fok_Ni cok_Ni (Nat.le_of_ble_eq_true rfl) (fun G hG => ?_)
  refine hG.1 [] 80 _ _ _ _ ?_
  refine hG.2.1 (c_Ni_alwaysPaid (g := g) hg hz hc hs) yv_Ni_alwaysPaid lk_Ni_41 (by decide +kernel) rfl rfl (List.range' 0 39) (by decide +kernel) ni_id rfl rfl (Nat.le_of_ble_eq_true rfl) (fun v w2 hv hl2 => ?_)
  rw [hv.2, ni_idb]
  have hv := hv.1
  rcases hv with ⟨hc1, rfl⟩ | ⟨hc1, rfl⟩
  · have hgi : ∀ i, i < sz → g < (cs i).2.2.1 := fun i hi => zSh_has (hc1.2 i hi)
    refine hG.1 [12] 80 _ _ _ _ ?_
    refine ⟨by omega, fun h1 => ?_, fun h1 => absurd h1 (by omega)⟩
    suffices L : ∀ a, a ≤ 9 → ((∀ a' b' : Nat, a' < b' → b' < 9 → a' < a → ¬ zBtw cs sz g a' b') → G 12 [(0, .inr (.inr 0)), (1, .inl (g : Int)), (2, .inl (a : Int))] [] (wNi su cs sz)) from L 0 (by omega) (fun a' b' _ _ h => by omega)
    refine z_up (fun hb => ?_) (fun a ha ih hb => ?_)
    · refine hG.1 [] 80 _ _ _ _ ?_
      refine ⟨by omega, fun h2 => ?_, fun h2 => absurd h2 (by omega)⟩
      exact ⟨trivial, Or.inl ⟨hc1, -1, rfl, Or.inl ⟨rfl, fun a' b' h3 h4 => hb a' b' h3 h4 (by omega)⟩⟩, rfl⟩
    · refine hG.1 [22] 80 _ _ _ _ ?_
      refine ⟨by omega, fun h2 => absurd h2 (by omega), fun h2 => ?_⟩
      suffices L : ∀ b, b ≤ 9 → (a < b → (∀ b' : Nat, a < b' → b' < b → ¬ zBtw cs sz g a b') → G 22 [(0, .inr (.inr 0)), (1, .inl (g : Int)), (2, .inl (a : Int)), (3, .inl (b : Int))] [] (wNi su cs sz)) from L (a + 1) (by omega) (by omega) (fun b' h3 h4 => by omega)
      refine z_up (fun hab hbb => ?_) (fun b hb2 ihb hab hbb => ?_)
      · refine hG.1 [12] 80 _ _ _ _ ?_
        refine ⟨by omega, fun h3 => ?_, fun h3 => absurd h3 (by omega)⟩
        exact hG.2.2.2.2.1 (fun q hq => List.mem_append_left _ hq) (ih (fun a' b' h4 h5 h6 => by
          rcases Nat.lt_succ_iff_lt_or_eq.mp h6 with h | rfl
          · exact hb a' b' h4 h5 h
          · exact hbb b' h4 h5))
      · refine hG.1 [22] 80 _ _ _ _ ?_
        refine ⟨by omega, fun h3 => absurd h3 (by omega), fun h3 => ?_⟩
        refine hG.2.1 (c_Ni_alwaysBetween (g := g) (a := a) (b := b) hgi (by omega) (by omega) hz hc) yv_Ni_alwaysBetween lk_Ni_44 (by decide +kernel) rfl rfl (List.range' 0 39) (by decide +kernel) ni_id rfl rfl (Nat.le_of_ble_eq_true rfl) (fun v w2 hv hl2 => ?_)
        rw [hv.2, ni_idb]
        have hv := hv.1
        rcases hv with ⟨hc2, rfl⟩ | ⟨hc2, rfl⟩
        · refine hG.1 [22] 80 _ _ _ _ ?_
          refine ⟨by omega, fun h4 => absurd h4 (by omega), fun h4 => ?_⟩
          refine ⟨trivial, Or.inl ⟨hc1, _, rfl, Or.inr ⟨a, b, hab, hb2, hc2, rfl, fun a' b' h5 h6 h7 => ?_⟩⟩, rfl⟩
          rcases h7 with h7 | ⟨rfl, h7⟩
          · exact hb a' b' h5 h6 h7
          · exact hbb b' h5 h7
        · refine hG.1 [22] 80 _ _ _ _ ?_
          refine ⟨by omega, fun h4 => ?_, fun h4 => absurd rfl h4⟩
          exact ihb (by omega) (fun b' h5 h6 => by
            rcases Nat.lt_succ_iff_lt_or_eq.mp h6 with h | rfl
            · exact hbb b' h5 h
            · exact hc2)
  · refine hG.1 [] 80 _ _ _ _ ?_
    refine ⟨by omega, fun h1 => absurd rfl h1, fun h1 => ?_⟩
    exact ⟨trivial, Or.inr ⟨hc1, rfl⟩, rfl⟩
def zMx (f g : Int → Int) (i : Nat) : Int → Int := fun j => if 0 ≤ j ∧ j < (i : Int) then f j else g j
def zMxC (cs cs' : Nat → zCD) (i : Nat) : Nat → zCD := fun k => if k < i then zCpC (cs k) (cs' k) else cs k
theorem zMx_put (f g : Int → Int) (i : Nat) : z_u (zMx f g i) i (f i) = zMx f g (i + 1) := by
  funext j
  unfold z_u zMx
  by_cases h : j = (i : Int)
  · subst h; rw [if_pos rfl, if_pos (by omega)]
  · rw [if_neg h]
    by_cases h2 : 0 ≤ j ∧ j < (i : Int)
    · rw [if_pos h2, if_pos (by omega)]
    · rw [if_neg h2, if_neg (by omega)]
theorem zMxC_put (cs cs' : Nat → zCD) (i : Nat) : z_un (zMxC cs cs' i) i (zCpC (zMxC cs cs' i i) (cs' i)) = zMxC cs cs' (i + 1) := by
  funext k
  unfold z_un zMxC
  by_cases h : k = i
  · subst h; rw [if_pos rfl, if_neg (Nat.lt_irrefl k), if_pos (Nat.lt_succ_self k)]
  · rw [if_neg h]
    by_cases h2 : k < i
    · rw [if_pos h2, if_pos (by omega)]
    · rw [if_neg h2, if_neg (by omega)]
theorem c_Ni_copyFrom {su' : Int → Int} {cs' : Nat → zCD} {sz' : Nat} (hz : sz' ≤ 12) :
    zMet m_Ni_copyFrom [.inr (.inr 0), .inr (.inr 39)] (wNi2 su cs sz su' cs' sz') (fun v w => v = none ∧ w = wNi2 (zMx su' su sz') (zMxC cs cs' sz') sz' su' cs' sz') := by
  refine zMet.of (own := RX1) rfl (by decide +kernel) tk_Ni_copyFrom fok_Ni cok_Ni (Nat.le_of_ble_eq_true rfl) (fun G hG => ?_)
  refine hG.1 [10] 80 _ _ _ _ ?_
  suffices L : G 10 [(0, .inr (.inr 0)), (1, .inr (.inr 39)), (2, .inl ((0 : Nat) : Int))] [] (wNi2 (zMx su' su 0) (zMxC cs cs' 0) sz' su' cs' sz') by
    have e1 : zMx su' su 0 = su := by funext j; unfold zMx; rw [if_neg (by omega)]
    have e2 : zMxC cs cs' 0 = cs := by funext k; unfold zMxC; rw [if_neg (by omega)]
    rw [e1, e2] at L; exact L
  refine z_up0 (n := sz') (P := fun i : Nat => G 10 [(0, .inr (.inr 0)), (1, .inr (.inr 39)), (2, .inl (i : Int))] [] (wNi2 (zMx su' su i) (zMxC cs cs' i) sz' su' cs' sz')) ?_ (fun i hi ih => ?_)
  · refine hG.1 [] 80 _ _ _ _ ?_
    refine ⟨by omega, fun h2 => ?_, fun h2 => absurd h2 (by omega)⟩
    exact ⟨trivial, rfl, rfl⟩
  · refine hG.1 [10] 80 _ _ _ _ ?_
    refine ⟨by omega, fun h2 => absurd h2 (by omega), fun h2 => ?_⟩
    refine ⟨by omega, by omega, by omega, by omega, ?_⟩
    refine hG.2.1 (c_Co_copyFrom (ks := (zMxC cs cs' i i).1) (ss := (zMxC cs cs' i i).2.1) (n := (zMxC cs cs' i i).2.2.1) (who := (zMxC cs cs' i i).2.2.2.1) (ties := (zMxC cs cs' i i).2.2.2.2) (ks' := (cs' i).1) (ss' := (cs' i).2.1) (n' := (cs' i).2.2.1) (who' := (cs' i).2.2.2.1) (ties' := (cs' i).2.2.2.2)) yv_Co_copyFrom lk_Ni_26 (by decide +kernel) rfl rfl [3 + 3 * i, 3 + 3 * i + 1, 3 + 3 * i + 2, 42 + 3 * i, 42 + 3 * i + 1, 42 + 3 * i + 2] (z_nd6c (by omega)) (ni_pickC (su := z_u (zMx su' su i) i (su' i)) i (by omega)) rfl rfl (Nat.le_of_ble_eq_true rfl) (fun v w2 hv hl2 => ?_)
    obtain ⟨rfl, rfl⟩ := hv
    have e := ni_putC (su := z_u (zMx su' su i) i (su' i)) (cs := zMxC cs cs' i) (sz := sz') (su' := su') (cs' := cs') (sz' := sz') (d := zCpC (zMxC cs cs' i i) (cs' i)) i (by omega)
    suffices L : G 45 [(0, .inr (.inr 0)), (1, .inr (.inr 39)), (2, .inl (i : Int))] [] (wNi2 (z_u (zMx su' su i) i (su' i)) (z_un (zMxC cs cs' i) i (zCpC (zMxC cs cs' i i) (cs' i))) sz' su' cs' sz') by
      rw [← e] at L; exact L
    rw [zMx_put, zMxC_put]
    refine hG.1 [10] 80 _ _ _ _ ?_
    exact ih
end Ni
end
section
/-! TABLE: burdens, best slips, turns, leagues -/
abbrev wTa (w ks ss : Int → Int) (n : Nat) (who ties : Int) : zW := [.inl (4, [.inr (.inr 1), .inr (.inr 3), .inr (.inr 6)]), .inl (3, [.inr (.inr 2)]), .inr (0, (21, .inl w)), .inl (0, [.inr (.inr 4), .inr (.inr 5), .inl (n : Int), .inl who, .inl ties]), .inr (0, (9, .inl ks)), .inr (0, (9, .inl ss))]
def zOkS (ss : Int → Int) (n : Nat) : Prop := ∀ j : Nat, j < n → 0 ≤ ss j ∧ ss j ≤ 20
def zOkW (w : Int → Int) : Prop := ∀ j : Nat, j < 21 → 0 ≤ w j ∧ w j ≤ 99
def zOkL (n : Nat) (who ties : Int) : Prop := n ≤ 9 ∧ (0 ≤ who ∧ who ≤ 3) ∧ (0 ≤ ties ∧ ties ≤ 2)
def zOkK (ks : Int → Int) (n : Nat) : Prop := ∀ j : Nat, j < n → 0 ≤ ks j ∧ ks j ≤ 3
noncomputable def zBuN (w ss : Int → Int) (n : Nat) (who ties : Int) (g : Nat) : Nat → Int
  | 0 => 0
  | k + 1 => zBuN w ss n who ties g k + (if 0 < w k then ((k : Int) * w k) * zSh ss n who ties k g (zFree ss n who) else 0)
noncomputable def zBu (w ss : Int → Int) (n : Nat) (who ties : Int) (g : Nat) : Int := zBuN w ss n who ties g 21
def zMn (f : Nat → Int) (L0 : Int) : Nat → Int
  | 0 => L0
  | k + 1 => if f k < zMn f L0 k then f k else zMn f L0 k
def zAr (f : Nat → Int) (L0 : Int) : Nat → Nat
  | 0 => 0
  | k + 1 => if f k < zMn f L0 k then k else zAr f L0 k
theorem zAr_le (f : Nat → Int) (L0 : Int) : ∀ k, zAr f L0 k ≤ k - 1
  | 0 => Nat.le_refl _
  | k + 1 => by have := zAr_le f L0 k; unfold zAr; split <;> omega
noncomputable def zFs (w ss : Int → Int) (n : Nat) (who ties : Int) (g : Nat) : Nat → Int := fun x => zBu w (z_u ss g x) n who ties g
noncomputable def zLi (w ss : Int → Int) (n : Nat) (who ties : Int) (g : Nat) : Nat := zAr (zFs w ss n who ties g) (2520 * zWeiN w 21 + 1) 21
noncomputable def zBet (w ks ss : Int → Int) (n : Nat) (who ties : Int) (g : Nat) : Int := if ks g = 2 then ss g else if zFs w ss n who ties g (zLi w ss n who ties g) < zBu w ss n who ties g then (zLi w ss n who ties g : Int) else ss g
noncomputable def zTk (w ks : Int → Int) (n : Nat) (who ties : Int) : Nat → Nat → Nat → Nat → (Int → Int) → Nat × (Int → Int)
  | 0, _, _, ch, s => (ch, s)
  | d + 1, g, kept, ch, s => if ¬ kept < n then (ch, s) else if zBet w ks s n who ties g = s g then zTk w ks n who ties d (if g + 1 < n then g + 1 else 0) (kept + 1) ch s else zTk w ks n who ties d (if g + 1 < n then g + 1 else 0) 0 (ch + 1) (z_u s g (zBet w ks s n who ties g))
noncomputable def zFp (w ss : Int → Int) (n : Nat) (who ties : Int) (a b c : Nat) : Nat → Int := fun p => zBu w (z_u (z_u ss a ((p / 21 : Nat) : Int)) b ((p % 21 : Nat) : Int)) n who ties c
def zHp (f : Nat → Int) (en : Int) : Nat → Nat → Nat → Int → Nat × Int
  | 0, _, h, m => (h, m)
  | d + 1, p, h, m => if m < en then (if m < f p then zHp f en d (p + 1) p (f p) else zHp f en d (p + 1) h m) else (h, m)
noncomputable def zSf (w ss : Int → Int) (n : Nat) (who ties : Int) (a b c : Nat) : Nat → Nat × Int
  | 0 => (0, 2520 * zWeiN w 21 + 1)
  | k + 1 => if zFp w (z_u ss c k) n who ties a b c (zHp (zFp w (z_u ss c k) n who ties a b c) (zSf w ss n who ties a b c k).2 441 0 0 (-1)).1 < (zSf w ss n who ties a b c k).2 then (k, zFp w (z_u ss c k) n who ties a b c (zHp (zFp w (z_u ss c k) n who ties a b c) (zSf w ss n who ties a b c k).2 441 0 0 (-1)).1) else zSf w ss n who ties a b c k
theorem z_u_back (s : Int → Int) (g x : Int) : z_u (z_u s g x) g (s g) = s := by
  funext j; unfold z_u; by_cases h : j = g
  · rw [if_pos h, h]
  · rw [if_neg h, if_neg h]
theorem z_u_u (s : Int → Int) (g x y : Int) : z_u (z_u s g x) g y = z_u s g y := by
  funext j; unfold z_u; by_cases h : j = g
  · rw [if_pos h, if_pos h]
  · rw [if_neg h, if_neg h, if_neg h]
theorem z_u_self (s : Int → Int) (g : Int) : z_u s g (s g) = s := by
  funext j; unfold z_u; by_cases h : j = g
  · rw [if_pos h, h]
  · rw [if_neg h]
theorem z_u_comm (s : Int → Int) {g k : Int} (h : g ≠ k) (x y : Int) : z_u (z_u s g x) k y = z_u (z_u s k y) g x := by
  funext j; unfold z_u
  by_cases h1 : j = k
  · subst h1; rw [if_pos rfl, if_neg (fun q => h q.symm), if_pos rfl]
  · rw [if_neg h1, if_neg h1]
theorem zOkS_u {s : Int → Int} {n : Nat} {g : Nat} {x : Int} (h : zOkS s n) (hx : 0 ≤ x ∧ x ≤ 20) : zOkS (z_u s g x) n := fun j hj => by
  unfold z_u; split
  · exact hx
  · exact h j hj
theorem zBuN_in {w ss : Int → Int} {n : Nat} {who ties : Int} {g : Nat} (hW : zOkW w) : ∀ k, k ≤ 21 → 0 ≤ zBuN w ss n who ties g k ∧ zBuN w ss n who ties g k ≤ 2520 * zWeiN w k
  | 0, _ => by simp [zBuN, zWeiN]
  | k + 1, hk => by
    have h1 := zBuN_in (ss := ss) (n := n) (who := who) (ties := ties) (g := g) hW k (by omega)
    have h2 := hW k (by omega)
    have h3 := zSh_in ss n who ties k g (zFree ss n who)
    have h4 : 0 ≤ (k : Int) * w k := Int.mul_nonneg (by omega) h2.1
    have h5 : 0 ≤ ((k : Int) * w k) * zSh ss n who ties k g (zFree ss n who) := Int.mul_nonneg h4 h3.1
    have h6 : ((k : Int) * w k) * zSh ss n who ties k g (zFree ss n who) ≤ ((k : Int) * w k) * 2520 := Int.mul_le_mul_of_nonneg_left h3.2 h4
    unfold zBuN zWeiN
    generalize ((k : Int) * w k) * zSh ss n who ties k g (zFree ss n who) = t at h5 h6 ⊢
    generalize (k : Int) * w k = u at h4 h6 ⊢
    split <;> omega
theorem zWei21 {w : Int → Int} (hW : zOkW w) : 0 ≤ zWeiN w 21 ∧ zWeiN w 21 ≤ 41580 := by
  have := zWeiN_in (f := w) (Nat.le_refl 21) hW; omega
theorem zBu_in {w ss : Int → Int} {n : Nat} {who ties : Int} {g : Nat} (hW : zOkW w) : 0 ≤ zBu w ss n who ties g ∧ zBu w ss n who ties g ≤ 2520 * zWeiN w 21 := zBuN_in hW 21 (Nat.le_refl _)
theorem zMn_in {f : Nat → Int} {L0 M : Int} (hL : 0 ≤ L0 ∧ L0 ≤ M) (hf : ∀ k, 0 ≤ f k ∧ f k ≤ M) : ∀ k, 0 ≤ zMn f L0 k ∧ zMn f L0 k ≤ M
  | 0 => hL
  | k + 1 => by have := zMn_in hL hf k; have := hf k; unfold zMn; split <;> omega
section Ta
variable {w ks ss : Int → Int} {n : Nat} {who ties : Int}
theorem c_Ta_burden {g : Nat} (hg : g < n) (hL : zOkL n who ties) (hS : zOkS ss n) (hW : zOkW w) :
    zMet m_Ta_burden [.inr (.inr 0), .inl g] (wTa w ks ss n who ties) (fun v wd => v = some (.inr (.inl (zBu w ss n who ties g))) ∧ wd = wTa w ks ss n who ties) := by
  obtain ⟨hn, hwho, hties⟩ := hL
  have hfr := zFree_in ss n who
  refine zMet.of (own := RX4) rfl (by decide +kernel) tk_Ta_burden fok_Ta cok_Ta (Nat.le_of_ble_eq_true rfl) (fun G hG => ?_)
  refine hG.1 [] 80 _ _ _ _ ?_
  refine hG.2.1 (c_Co_freeGuest hn hwho hS) yv_Co_freeGuest lk_Ta_42 (by decide +kernel) rfl rfl [3, 4, 5] (by decide +kernel) rfl rfl rfl (Nat.le_of_ble_eq_true rfl) (fun v w2 hv hl2 => ?_)
  obtain ⟨rfl, rfl⟩ := hv
  change G _ _ _ (wTa w ks (ss) n who ties)
  refine hG.1 [13] 80 _ _ _ _ ?_
  have e1 : zBuN w ss n who ties g 1 = 0 := by
    unfold zBuN; unfold zBuN
    simp
  suffices L : ∀ i, i ≤ 21 → (1 ≤ i → G 13 [(0, .inr (.inr 0)), (1, .inl (g : Int)), (2, .inl (zFree ss n who)), (3, .inr (.inl (zBuN w ss n who ties g i))), (5, .inl (i : Int))] [] (wTa w ks ss n who ties)) by
    have := L 1 (by omega) (by omega)
    rw [e1] at this; exact this
  refine z_up (fun hb => ?_) (fun i hi ih hb => ?_)
  · refine hG.1 [] 80 _ _ _ _ ?_
    refine ⟨by omega, fun h1 => ?_, fun h1 => absurd h1 (by omega)⟩
    exact ⟨trivial, rfl, rfl⟩
  · have hwi := hW i hi
    have hsh := zSh_in ss n who ties i g (zFree ss n who)
    have e : zBuN w ss n who ties g (i + 1) = zBuN w ss n who ties g i + (if 0 < w i then ((i : Int) * w i) * zSh ss n who ties i g (zFree ss n who) else 0) := rfl
    have ih := ih (by omega)
    refine hG.1 [13] 80 _ _ _ _ ?_
    refine ⟨by omega, fun h1 => absurd h1 (by omega), fun h1 => ?_⟩
    refine hG.2.1 (c_Su_weightOf (x := (i : Int)) (by omega)) yv_Su_weightOf lk_Ta_46 (by decide +kernel) rfl rfl [1, 2] (by decide +kernel) rfl rfl rfl (Nat.le_of_ble_eq_true rfl) (fun v w2 hv hl2 => ?_)
    obtain ⟨rfl, rfl⟩ := hv
    change G _ _ _ (wTa w ks (ss) n who ties)
    refine hG.1 [13] 80 _ _ _ _ ?_
    refine ⟨by omega, fun h2 => ?_, fun h2 => ?_⟩
    · rw [e, if_neg (by omega), Int.add_zero] at ih
      exact hG.2.2.2.2.1 (fun q hq => List.mem_append_left _ hq) ih
    · refine ⟨by omega, by omega, ?_⟩
      refine hG.2.1 (c_Co_share (g := g) (by omega) hn hwho hties hS (by omega) (by omega)) yv_Co_share lk_Ta_50 (by decide +kernel) rfl rfl [3, 4, 5] (by decide +kernel) rfl rfl rfl (Nat.le_of_ble_eq_true rfl) (fun v w2 hv hl2 => ?_)
      obtain ⟨rfl, rfl⟩ := hv
      change G _ _ _ (wTa w ks (ss) n who ties)
      refine hG.1 [13] 80 _ _ _ _ ?_
      rw [e, if_pos h2] at ih
      exact ⟨by omega, hG.2.2.2.2.1 (fun q hq => List.mem_append_left _ hq) ih⟩
theorem c_Ta_wholeBurden (hW : zOkW w) :
    zMet m_Ta_wholeBurden [.inr (.inr 0)] (wTa w ks ss n who ties) (fun v wd => v = some (.inr (.inl (2520 * zWeiN w 21))) ∧ wd = wTa w ks ss n who ties) := by
  have h := zWei21 hW
  refine zMet.of (own := RX4) rfl (by decide +kernel) tk_Ta_wholeBurden fok_Ta cok_Ta (Nat.le_of_ble_eq_true rfl) (fun G hG => ?_)
  refine hG.1 [] 80 _ _ _ _ ?_
  refine hG.2.1 (c_Su_weighed ) yv_Su_weighed lk_Ta_56 (by decide +kernel) rfl rfl [1, 2] (by decide +kernel) rfl rfl rfl (Nat.le_of_ble_eq_true rfl) (fun v w2 hv hl2 => ?_)
  obtain ⟨rfl, rfl⟩ := hv
  change G _ _ _ (wTa w ks (ss) n who ties)
  refine hG.1 [] 80 _ _ _ _ ?_
  exact ⟨by omega, trivial, rfl, rfl⟩
theorem c_Ta_burdenBy {g x : Nat} (hg : g < n) (hx : x ≤ 20) (hL : zOkL n who ties) (hS : zOkS ss n) (hW : zOkW w) :
    zMet m_Ta_burdenBy [.inr (.inr 0), .inl g, .inl x] (wTa w ks ss n who ties) (fun v wd => v = some (.inr (.inl (zFs w ss n who ties g x))) ∧ wd = wTa w ks ss n who ties) := by
  have hn := hL.1
  refine zMet.of (own := RX4) rfl (by decide +kernel) tk_Ta_burdenBy fok_Ta cok_Ta (Nat.le_of_ble_eq_true rfl) (fun G hG => ?_)
  refine hG.1 [] 80 _ _ _ _ ?_
  refine hG.2.1 (c_Co_slipOf hg hn) yv_Co_slipOf lk_Ta_59 (by decide +kernel) rfl rfl [3, 4, 5] (by decide +kernel) rfl rfl rfl (Nat.le_of_ble_eq_true rfl) (fun v w2 hv hl2 => ?_)
  obtain ⟨rfl, rfl⟩ := hv
  change G _ _ _ (wTa w ks (ss) n who ties)
  refine hG.1 [] 80 _ _ _ _ ?_
  refine hG.2.1 (c_Co_putSlip (x := (x : Int)) hg hn) yv_Co_putSlip lk_Ta_62 (by decide +kernel) rfl rfl [3, 4, 5] (by decide +kernel) rfl rfl rfl (Nat.le_of_ble_eq_true rfl) (fun v w2 hv hl2 => ?_)
  obtain ⟨rfl, rfl⟩ := hv
  change G _ _ _ (wTa w ks (z_u (ss) g ((x : Int))) n who ties)
  refine hG.1 [] 80 _ _ _ _ ?_
  refine hG.2.1 (c_Ta_burden (ss := z_u ss g x) hg hL (zOkS_u hS (by omega)) hW) yv_Ta_burden lk_Ta_66 (by decide +kernel) rfl rfl [0, 1, 2, 3, 4, 5] (by decide +kernel) rfl rfl rfl (Nat.le_of_ble_eq_true rfl) (fun v w2 hv hl2 => ?_)
  obtain ⟨rfl, rfl⟩ := hv
  change G _ _ _ (wTa w ks (z_u ss g x) n who ties)
  refine hG.1 [] 80 _ _ _ _ ?_
  refine hG.2.1 (c_Co_putSlip (ss := z_u ss g x) (x := ss g) hg hn) yv_Co_putSlip lk_Ta_62 (by decide +kernel) rfl rfl [3, 4, 5] (by decide +kernel) rfl rfl rfl (Nat.le_of_ble_eq_true rfl) (fun v w2 hv hl2 => ?_)
  obtain ⟨rfl, rfl⟩ := hv
  change G _ _ _ (wTa w ks (z_u (z_u ss g x) g (ss g)) n who ties)
  rw [z_u_back]
  refine hG.1 [] 80 _ _ _ _ ?_
  exact ⟨trivial, rfl, rfl⟩
theorem c_Ta_lightestSlip {g : Nat} (hg : g < n) (hL : zOkL n who ties) (hS : zOkS ss n) (hW : zOkW w) :
    zMet m_Ta_lightestSlip [.inr (.inr 0), .inl g] (wTa w ks ss n who ties) (fun v wd => v = some (.inl (zLi w ss n who ties g : Int)) ∧ wd = wTa w ks ss n who ties) := by
  have hn := hL.1
  have hwb := zWei21 hW
  refine zMet.of (own := RX4) rfl (by decide +kernel) tk_Ta_lightestSlip fok_Ta cok_Ta (Nat.le_of_ble_eq_true rfl) (fun G hG => ?_)
  refine hG.1 [] 80 _ _ _ _ ?_
  refine hG.2.1 (c_Co_slipOf hg hn) yv_Co_slipOf lk_Ta_59 (by decide +kernel) rfl rfl [3, 4, 5] (by decide +kernel) rfl rfl rfl (Nat.le_of_ble_eq_true rfl) (fun v w2 hv hl2 => ?_)
  obtain ⟨rfl, rfl⟩ := hv
  change G _ _ _ (wTa w ks (ss) n who ties)
  refine hG.1 [] 80 _ _ _ _ ?_
  refine hG.2.1 (c_Ta_wholeBurden hW) yv_Ta_wholeBurden lk_Ta_70 (by decide +kernel) rfl rfl [0, 1, 2, 3, 4, 5] (by decide +kernel) rfl rfl rfl (Nat.le_of_ble_eq_true rfl) (fun v w2 hv hl2 => ?_)
  obtain ⟨rfl, rfl⟩ := hv
  change G _ _ _ (wTa w ks (ss) n who ties)
  refine hG.1 [22] 80 _ _ _ _ ?_
  have hf : ∀ k, 0 ≤ zFs w ss n who ties g k ∧ zFs w ss n who ties g k ≤ 2520 * zWeiN w 21 + 1 := fun k => by
    have := zBu_in (w := w) (ss := z_u ss g k) (n := n) (who := who) (ties := ties) (g := g) hW
    unfold zFs; omega
  have hm := zMn_in (f := zFs w ss n who ties g) (L0 := 2520 * zWeiN w 21 + 1) (M := 2520 * zWeiN w 21 + 1) (by omega) hf
  suffices L : ∀ i, i ≤ 21 → ∀ s' : Int → Int, (∀ x, z_u s' g x = z_u ss g x) → zOkS s' n → G 22 [(0, .inr (.inr 0)), (1, .inl (g : Int)), (2, .inl (ss g)), (3, .inl (zAr (zFs w ss n who ties g) (2520 * zWeiN w 21 + 1) i : Int)), (4, .inr (.inl (zMn (zFs w ss n who ties g) (2520 * zWeiN w 21 + 1) i))), (6, .inl (i : Int))] [] (wTa w ks s' n who ties) from L 0 (by omega) ss (fun _ => rfl) hS
  refine z_up (fun s' hs' hok => ?_) (fun i hi ih s' hs' hok => ?_)
  · refine hG.1 [] 80 _ _ _ _ ?_
    refine ⟨by omega, fun h1 => ?_, fun h1 => absurd h1 (by omega)⟩
    refine hG.2.1 (c_Co_putSlip (ss := s') (x := ss g) hg hn) yv_Co_putSlip lk_Ta_62 (by decide +kernel) rfl rfl [3, 4, 5] (by decide +kernel) rfl rfl rfl (Nat.le_of_ble_eq_true rfl) (fun v w2 hv hl2 => ?_)
    obtain ⟨rfl, rfl⟩ := hv
    change G _ _ _ (wTa w ks (z_u (s') g (ss g)) n who ties)
    rw [hs', z_u_self]
    refine hG.1 [] 80 _ _ _ _ ?_
    exact ⟨trivial, rfl, rfl⟩
  · have e1 : zMn (zFs w ss n who ties g) (2520 * zWeiN w 21 + 1) (i + 1) = if zFs w ss n who ties g i < zMn (zFs w ss n who ties g) (2520 * zWeiN w 21 + 1) i then zFs w ss n who ties g i else zMn (zFs w ss n who ties g) (2520 * zWeiN w 21 + 1) i := rfl
    have e2 : zAr (zFs w ss n who ties g) (2520 * zWeiN w 21 + 1) (i + 1) = if zFs w ss n who ties g i < zMn (zFs w ss n who ties g) (2520 * zWeiN w 21 + 1) i then i else zAr (zFs w ss n who ties g) (2520 * zWeiN w 21 + 1) i := rfl
    have hfi := hf i
    have hmi := hm i
    have hok2 : zOkS (z_u ss g i) n := zOkS_u hS (by omega)
    have ih := ih (z_u ss g i) (fun x => z_u_u ss g i x) hok2
    refine hG.1 [22] 80 _ _ _ _ ?_
    refine ⟨by omega, fun h1 => absurd h1 (by omega), fun h1 => ?_⟩
    refine hG.2.1 (c_Co_putSlip (ss := s') (x := (i : Int)) hg hn) yv_Co_putSlip lk_Ta_62 (by decide +kernel) rfl rfl [3, 4, 5] (by decide +kernel) rfl rfl rfl (Nat.le_of_ble_eq_true rfl) (fun v w2 hv hl2 => ?_)
    obtain ⟨rfl, rfl⟩ := hv
    change G _ _ _ (wTa w ks (z_u (s') g ((i : Int))) n who ties)
    rw [hs']
    refine hG.1 [22] 80 _ _ _ _ ?_
    refine hG.2.1 (c_Ta_burden (ss := z_u ss g i) hg hL hok2 hW) yv_Ta_burden lk_Ta_66 (by decide +kernel) rfl rfl [0, 1, 2, 3, 4, 5] (by decide +kernel) rfl rfl rfl (Nat.le_of_ble_eq_true rfl) (fun v w2 hv hl2 => ?_)
    obtain ⟨rfl, rfl⟩ := hv
    change G _ _ _ (wTa w ks (z_u ss g i) n who ties)
    have back : zBu w (z_u ss g i) n who ties g = zFs w ss n who ties g i := rfl
    rw [back]
    refine hG.1 [22] 80 _ _ _ _ ?_
    refine ⟨by omega, fun h2 => ?_, fun h2 => ?_⟩
    · rw [e1, e2, if_neg (by omega), if_neg (by omega)] at ih
      exact hG.2.2.2.2.1 (fun q hq => List.mem_append_left _ hq) ih
    · rw [e1, e2, if_pos h2, if_pos h2] at ih
      exact hG.2.2.2.2.1 (fun q hq => List.mem_append_left _ hq) ih
theorem zLi_le {g : Nat} : zLi w ss n who ties g ≤ 20 := zAr_le _ _ 21
theorem c_Ta_betterSlip {g : Nat} (hg : g < n) (hL : zOkL n who ties) (hS : zOkS ss n) (hW : zOkW w) (hK : zOkK ks n) :
    zMet m_Ta_betterSlip [.inr (.inr 0), .inl g] (wTa w ks ss n who ties) (fun v wd => v = some (.inl (zBet w ks ss n who ties g)) ∧ wd = wTa w ks ss n who ties) := by
  have hn := hL.1
  have hwb := zWei21 hW
  refine zMet.of (own := RX4) rfl (by decide +kernel) tk_Ta_betterSlip fok_Ta cok_Ta (Nat.le_of_ble_eq_true rfl) (fun G hG => ?_)
  refine hG.1 [] 80 _ _ _ _ ?_
  refine hG.2.1 (c_Co_slipOf hg hn) yv_Co_slipOf lk_Ta_59 (by decide +kernel) rfl rfl [3, 4, 5] (by decide +kernel) rfl rfl rfl (Nat.le_of_ble_eq_true rfl) (fun v w2 hv hl2 => ?_)
  obtain ⟨rfl, rfl⟩ := hv
  change G _ _ _ (wTa w ks (ss) n who ties)
  refine hG.1 [] 80 _ _ _ _ ?_
  refine hG.2.1 (c_Co_isNought hg hn (hK g hg)) yv_Co_isNought lk_Ta_74 (by decide +kernel) rfl rfl [3, 4, 5] (by decide +kernel) rfl rfl rfl (Nat.le_of_ble_eq_true rfl) (fun v w2 hv hl2 => ?_)
  obtain ⟨⟨hc, rfl⟩ | ⟨hc, rfl⟩, rfl⟩ := hv
  · change G _ _ _ (wTa w ks (ss) n who ties)
    refine hG.1 [] 80 _ _ _ _ ?_
    refine ⟨by omega, fun h1 => absurd h1 (by omega), fun h1 => ?_⟩
    exact ⟨trivial, by rw [zBet, if_pos hc], rfl⟩
  · change G _ _ _ (wTa w ks (ss) n who ties)
    refine hG.1 [] 80 _ _ _ _ ?_
    refine ⟨by omega, fun h1 => ?_, fun h1 => absurd rfl h1⟩
    refine hG.2.1 (c_Ta_lightestSlip hg hL hS hW) yv_Ta_lightestSlip lk_Ta_78 (by decide +kernel) rfl rfl [0, 1, 2, 3, 4, 5] (by decide +kernel) rfl rfl rfl (Nat.le_of_ble_eq_true rfl) (fun v w2 hv hl2 => ?_)
    obtain ⟨rfl, rfl⟩ := hv
    change G _ _ _ (wTa w ks (ss) n who ties)
    refine hG.1 [] 80 _ _ _ _ ?_
    refine hG.2.1 (c_Ta_burdenBy (x := zLi w ss n who ties g) hg zLi_le hL hS hW) yv_Ta_burdenBy lk_Ta_81 (by decide +kernel) rfl rfl [0, 1, 2, 3, 4, 5] (by decide +kernel) rfl rfl rfl (Nat.le_of_ble_eq_true rfl) (fun v w2 hv hl2 => ?_)
    obtain ⟨rfl, rfl⟩ := hv
    change G _ _ _ (wTa w ks (ss) n who ties)
    refine hG.1 [] 80 _ _ _ _ ?_
    refine hG.2.1 (c_Ta_burden hg hL hS hW) yv_Ta_burden lk_Ta_66 (by decide +kernel) rfl rfl [0, 1, 2, 3, 4, 5] (by decide +kernel) rfl rfl rfl (Nat.le_of_ble_eq_true rfl) (fun v w2 hv hl2 => ?_)
    obtain ⟨rfl, rfl⟩ := hv
    change G _ _ _ (wTa w ks (ss) n who ties)
    have b1 := zBu_in (w := w) (ss := ss) (n := n) (who := who) (ties := ties) (g := g) hW
    have b2 : 0 ≤ zFs w ss n who ties g (zLi w ss n who ties g) ∧ zFs w ss n who ties g (zLi w ss n who ties g) ≤ 2520 * zWeiN w 21 := zBu_in hW
    refine hG.1 [] 80 _ _ _ _ ?_
    refine ⟨by omega, fun h2 => ?_, fun h2 => ?_⟩
    · exact ⟨trivial, by rw [zBet, if_neg hc, if_neg (by omega)], rfl⟩
    · exact ⟨trivial, by rw [zBet, if_neg hc, if_pos h2], rfl⟩
theorem zBet_in {g : Nat} (hg : g < n) (hS : zOkS ss n) : 0 ≤ zBet w ks ss n who ties g ∧ zBet w ks ss n who ties g ≤ 20 := by
  have h1 := hS g hg
  have h2 := zLi_le (w := w) (ss := ss) (n := n) (who := who) (ties := ties) (g := g)
  unfold zBet; split
  · exact h1
  · split <;> omega
theorem c_Ta_nobodyWouldChange (hL : zOkL n who ties) (hS : zOkS ss n) (hW : zOkW w) (hK : zOkK ks n) :
    zMet m_Ta_nobodyWouldChange [.inr (.inr 0)] (wTa w ks ss n who ties) (fun v wd => z_bool (∀ g : Nat, g < n → zBet w ks ss n who ties g = ss g) v ∧ wd = wTa w ks ss n who ties) := by
  have hn := hL.1
  refine zMet.of (own := RX4) rfl (by decide +kernel) tk_Ta_nobodyWouldChange fok_Ta cok_Ta (Nat.le_of_ble_eq_true rfl) (fun G hG => ?_)
  refine hG.1 [2] 80 _ _ _ _ ?_
  suffices L : ∀ i, i ≤ n → ((∀ g : Nat, g < i → zBet w ks ss n who ties g = ss g) → G 2 [(0, .inr (.inr 0)), (1, .inl (i : Int))] [] (wTa w ks ss n who ties)) from L 0 (by omega) (fun g h => by omega)
  refine z_up (fun hb => ?_) (fun i hi ih hb => ?_)
  · refine hG.1 [] 80 _ _ _ _ ?_
    refine hG.2.1 (c_Co_size ) yv_Co_size lk_Ta_85 (by decide +kernel) rfl rfl [3, 4, 5] (by decide +kernel) rfl rfl rfl (Nat.le_of_ble_eq_true rfl) (fun v w2 hv hl2 => ?_)
    obtain ⟨rfl, rfl⟩ := hv
    change G _ _ _ (wTa w ks (ss) n who ties)
    refine hG.1 [] 80 _ _ _ _ ?_
    refine ⟨by omega, fun h1 => ?_, fun h1 => absurd h1 (by omega)⟩
    exact ⟨Or.inr rfl, Or.inl ⟨hb, rfl⟩, rfl⟩
  · have hbi := zBet_in (w := w) (ks := ks) (ss := ss) (who := who) (ties := ties) hi hS
    have hsi := hS i hi
    refine hG.1 [] 80 _ _ _ _ ?_
    refine hG.2.1 (c_Co_size ) yv_Co_size lk_Ta_85 (by decide +kernel) rfl rfl [3, 4, 5] (by decide +kernel) rfl rfl rfl (Nat.le_of_ble_eq_true rfl) (fun v w2 hv hl2 => ?_)
    obtain ⟨rfl, rfl⟩ := hv
    change G _ _ _ (wTa w ks (ss) n who ties)
    refine hG.1 [] 80 _ _ _ _ ?_
    refine ⟨by omega, fun h1 => absurd h1 (by omega), fun h1 => ?_⟩
    refine hG.2.1 (c_Ta_betterSlip hi hL hS hW hK) yv_Ta_betterSlip lk_Ta_88 (by decide +kernel) rfl rfl [0, 1, 2, 3, 4, 5] (by decide +kernel) rfl rfl rfl (Nat.le_of_ble_eq_true rfl) (fun v w2 hv hl2 => ?_)
    obtain ⟨rfl, rfl⟩ := hv
    change G _ _ _ (wTa w ks (ss) n who ties)
    refine hG.1 [] 80 _ _ _ _ ?_
    refine hG.2.1 (c_Co_slipOf hi hn) yv_Co_slipOf lk_Ta_59 (by decide +kernel) rfl rfl [3, 4, 5] (by decide +kernel) rfl rfl rfl (Nat.le_of_ble_eq_true rfl) (fun v w2 hv hl2 => ?_)
    obtain ⟨rfl, rfl⟩ := hv
    change G _ _ _ (wTa w ks (ss) n who ties)
    refine hG.1 [2] 80 _ _ _ _ ?_
    refine ⟨by omega, fun h2 => ?_, fun h2 => ?_⟩
    · exact ih (fun g hg => by
        rcases Nat.lt_succ_iff_lt_or_eq.mp hg with h | rfl
        · exact hb g h
        · exact h2)
    · exact ⟨Or.inl rfl, Or.inr ⟨fun z => h2 (z i hi), rfl⟩, rfl⟩
theorem c_Ta_takeTurns {t : Nat} (ht : t ≤ 40) (hL : zOkL n who ties) (hS : zOkS ss n) (hW : zOkW w) (hK : zOkK ks n) :
    zMet m_Ta_takeTurns [.inr (.inr 0), .inl t] (wTa w ks ss n who ties) (fun v wd => v = some (.inl ((zTk w ks n who ties t 0 0 0 ss).1 : Int)) ∧ wd = wTa w ks (zTk w ks n who ties t 0 0 0 ss).2 n who ties) := by
  have hn := hL.1
  refine zMet.of (own := RX4) rfl (by decide +kernel) tk_Ta_takeTurns fok_Ta cok_Ta (Nat.le_of_ble_eq_true rfl) (fun G hG => ?_)
  refine hG.1 [10] 80 _ _ _ _ ?_
  have key : ∀ d i : Nat, i + d = t → ∀ (g kept ch : Nat) (s : Int → Int), (0 < n → g < n) → kept ≤ n → ch ≤ i → zOkS s n → zTk w ks n who ties d g kept ch s = zTk w ks n who ties t 0 0 0 ss →
      G 10 [(0, .inr (.inr 0)), (1, .inl (t : Int)), (2, .inl (ch : Int)), (3, .inl (kept : Int)), (4, .inl (g : Int)), (5, .inl (i : Int))] [] (wTa w ks s n who ties) := by
    intro d
    induction d with
    | zero =>
      intro i hi g kept ch s hg hk hch hs he
      refine hG.1 [] 80 _ _ _ _ ?_
      refine ⟨by omega, fun h1 => ?_, fun h1 => absurd h1 (by omega)⟩
      exact ⟨trivial, by rw [← he]; rfl, by rw [← he]; rfl⟩
    | succ d ih =>
      intro i hi g kept ch s hg hk hch hs he
      refine hG.1 [] 80 _ _ _ _ ?_
      refine ⟨by omega, fun h1 => absurd h1 (by omega), fun h1 => ?_⟩
      refine hG.2.1 (c_Co_size (ss := s)) yv_Co_size lk_Ta_85 (by decide +kernel) rfl rfl [3, 4, 5] (by decide +kernel) rfl rfl rfl (Nat.le_of_ble_eq_true rfl) (fun v w2 hv hl2 => ?_)
      obtain ⟨rfl, rfl⟩ := hv
      change G _ _ _ (wTa w ks (s) n who ties)
      have he2 : (if ¬ kept < n then (ch, s) else if zBet w ks s n who ties g = s g then zTk w ks n who ties d (if g + 1 < n then g + 1 else 0) (kept + 1) ch s else zTk w ks n who ties d (if g + 1 < n then g + 1 else 0) 0 (ch + 1) (z_u s g (zBet w ks s n who ties g))) = zTk w ks n who ties t 0 0 0 ss := he
      refine hG.1 [] 80 _ _ _ _ ?_
      refine ⟨by omega, fun h2 => ?_, fun h2 => ?_⟩
      · rw [if_pos (by omega)] at he2
        exact ⟨trivial, by rw [← he2], by rw [← he2]⟩
      · rw [if_neg (by omega)] at he2
        have hgn : g < n := hg (by omega)
        have hsg := hs g hgn
        have hbi := zBet_in (w := w) (ks := ks) (ss := s) (who := who) (ties := ties) hgn hs
        -- the next guest
        have tail : ∀ (kept' ch' : Nat) (s' : Int → Int) (bv : Int), kept' ≤ n → ch' ≤ i + 1 → zOkS s' n → zTk w ks n who ties d (if g + 1 < n then g + 1 else 0) kept' ch' s' = zTk w ks n who ties t 0 0 0 ss →
            G 71 [(0, .inr (.inr 0)), (1, .inl (t : Int)), (2, .inl (ch' : Int)), (3, .inl (kept' : Int)), (4, .inl (g : Int)), (5, .inl (i : Int)), (6, .inl bv)] [] (wTa w ks s' n who ties) := by
          intro kept' ch' s' bv hk' hch' hs' he'
          refine hG.1 [] 80 _ _ _ _ ?_
          refine hG.2.1 (c_Co_size (ss := s')) yv_Co_size lk_Ta_85 (by decide +kernel) rfl rfl [3, 4, 5] (by decide +kernel) rfl rfl rfl (Nat.le_of_ble_eq_true rfl) (fun v w2 hv hl2 => ?_)
          obtain ⟨rfl, rfl⟩ := hv
          change G _ _ _ (wTa w ks (s') n who ties)
          refine hG.1 [10] 80 _ _ _ _ ?_
          refine ⟨by omega, fun h5 => ?_, fun h5 => ?_⟩
          · rw [if_neg (by omega)] at he'
            exact hG.2.2.2.2.1 (fun q hq => List.mem_append_left _ hq) (ih (i + 1) (by omega) 0 kept' ch' s' (by omega) hk' hch' hs' he')
          · rw [if_pos (by omega)] at he'
            exact hG.2.2.2.2.1 (fun q hq => List.mem_append_left _ hq) (ih (i + 1) (by omega) (g + 1) kept' ch' s' (by omega) hk' hch' hs' he')
        refine hG.2.1 (c_Ta_betterSlip (ss := s) hgn hL hs hW hK) yv_Ta_betterSlip lk_Ta_88 (by decide +kernel) rfl rfl [0, 1, 2, 3, 4, 5] (by decide +kernel) rfl rfl rfl (Nat.le_of_ble_eq_true rfl) (fun v w2 hv hl2 => ?_)
        obtain ⟨rfl, rfl⟩ := hv
        change G _ _ _ (wTa w ks (s) n who ties)
        refine hG.1 [] 80 _ _ _ _ ?_
        refine hG.2.1 (c_Co_slipOf (ss := s) hgn hn) yv_Co_slipOf lk_Ta_59 (by decide +kernel) rfl rfl [3, 4, 5] (by decide +kernel) rfl rfl rfl (Nat.le_of_ble_eq_true rfl) (fun v w2 hv hl2 => ?_)
        obtain ⟨rfl, rfl⟩ := hv
        change G _ _ _ (wTa w ks (s) n who ties)
        refine hG.1 [71] 80 _ _ _ _ ?_
        refine ⟨by omega, fun h3 => ?_, fun h3 => ?_⟩
        · rw [if_neg h3] at he2
          refine hG.2.1 (c_Co_putSlip (ss := s) (x := zBet w ks s n who ties g) hgn hn) yv_Co_putSlip lk_Ta_62 (by decide +kernel) rfl rfl [3, 4, 5] (by decide +kernel) rfl rfl rfl (Nat.le_of_ble_eq_true rfl) (fun v w2 hv hl2 => ?_)
          obtain ⟨rfl, rfl⟩ := hv
          change G _ _ _ (wTa w ks (z_u (s) g (zBet w ks s n who ties g)) n who ties)
          refine hG.1 [71] 80 _ _ _ _ ?_
          exact tail 0 (ch + 1) (z_u s g (zBet w ks s n who ties g)) _ (by omega) (by omega) (zOkS_u hs hbi) he2
        · rw [if_pos h3] at he2
          exact tail (kept + 1) ch s _ (by omega) (by omega) hs he2
  exact key t 0 (by omega) 0 0 0 ss (fun h => h) (by omega) (by omega) hS rfl
end Ta
end
section
/-! TABLE: leagues, shunning -/
section Lg
variable {w ks ss : Int → Int} {n : Nat} {who ties : Int}
theorem c_Ta_putPair {a b p : Nat} (ha : a < n) (hb : b < n) (hp : p < 441) (hn : n ≤ 9) :
    zMet m_Ta_putPair [.inr (.inr 0), .inl a, .inl b, .inl p] (wTa w ks ss n who ties) (fun v wd => v = none ∧ wd = wTa w ks (z_u (z_u ss a ((p / 21 : Nat) : Int)) b ((p % 21 : Nat) : Int)) n who ties) := by
  refine zMet.of (own := RX4) rfl (by decide +kernel) tk_Ta_putPair fok_Ta cok_Ta (Nat.le_of_ble_eq_true rfl) (fun G hG => ?_)
  refine hG.1 [] 80 _ _ _ _ ?_
  refine ⟨by omega, ?_⟩
  refine hG.2.1 (c_Co_putSlip (ss := ss) (x := ((p / 21 : Nat) : Int)) ha hn) yv_Co_putSlip lk_Ta_62 (by decide +kernel) rfl rfl [3, 4, 5] (by decide +kernel) rfl rfl rfl (Nat.le_of_ble_eq_true rfl) (fun v w2 hv hl2 => ?_)
  obtain ⟨rfl, rfl⟩ := hv
  change G _ _ _ (wTa w ks (z_u ss a ((p / 21 : Nat) : Int)) n who ties)
  refine hG.1 [] 80 _ _ _ _ ?_
  refine ⟨by omega, ?_⟩
  refine hG.2.1 (c_Co_putSlip (ss := z_u ss a ((p / 21 : Nat) : Int)) (x := ((p % 21 : Nat) : Int)) hb hn) yv_Co_putSlip lk_Ta_62 (by decide +kernel) rfl rfl [3, 4, 5] (by decide +kernel) rfl rfl rfl (Nat.le_of_ble_eq_true rfl) (fun v w2 hv hl2 => ?_)
  obtain ⟨rfl, rfl⟩ := hv
  change G _ _ _ (wTa w ks (z_u (z_u ss a ((p / 21 : Nat) : Int)) b ((p % 21 : Nat) : Int)) n who ties)
  refine hG.1 [] 80 _ _ _ _ ?_
  exact ⟨trivial, rfl, rfl⟩
theorem zOkS_p {a b p : Nat} (hp : p < 441) (hS : zOkS ss n) : zOkS (z_u (z_u ss a ((p / 21 : Nat) : Int)) b ((p % 21 : Nat) : Int)) n := zOkS_u (zOkS_u hS (by omega)) (by omega)
theorem zPairBack {a b : Nat} {s : Int → Int} (hs : ∀ x y : Int, z_u (z_u s a x) b y = z_u (z_u ss a x) b y) : z_u (z_u s a (ss a)) b (ss b) = ss := by
  rw [hs, z_u_self, z_u_self]
theorem c_Ta_burdenByPair {a b c p : Nat} (ha : a < n) (hb : b < n) (hc : c < n) (hp : p < 441) (hL : zOkL n who ties) (hS : zOkS ss n) (hW : zOkW w) (hab : a ≠ b) :
    zMet m_Ta_burdenByPair [.inr (.inr 0), .inl a, .inl b, .inl c, .inl p] (wTa w ks ss n who ties) (fun v wd => v = some (.inr (.inl (zFp w ss n who ties a b c p))) ∧ wd = wTa w ks ss n who ties) := by
  have hn := hL.1
  refine zMet.of (own := RX4) rfl (by decide +kernel) tk_Ta_burdenByPair fok_Ta cok_Ta (Nat.le_of_ble_eq_true rfl) (fun G hG => ?_)
  refine hG.1 [] 80 _ _ _ _ ?_
  refine hG.2.1 (c_Co_slipOf (ss := ss) ha hn) yv_Co_slipOf lk_Ta_59 (by decide +kernel) rfl rfl [3, 4, 5] (by decide +kernel) rfl rfl rfl (Nat.le_of_ble_eq_true rfl) (fun v w2 hv hl2 => ?_)
  obtain ⟨rfl, rfl⟩ := hv
  change G _ _ _ (wTa w ks ss n who ties)
  refine hG.1 [] 80 _ _ _ _ ?_
  refine hG.2.1 (c_Co_slipOf (ss := ss) hb hn) yv_Co_slipOf lk_Ta_59 (by decide +kernel) rfl rfl [3, 4, 5] (by decide +kernel) rfl rfl rfl (Nat.le_of_ble_eq_true rfl) (fun v w2 hv hl2 => ?_)
  obtain ⟨rfl, rfl⟩ := hv
  change G _ _ _ (wTa w ks ss n who ties)
  refine hG.1 [] 80 _ _ _ _ ?_
  refine hG.2.1 (c_Ta_putPair (ss := ss) ha hb hp hn) yv_Ta_putPair lk_Ta_93 (by decide +kernel) rfl rfl [0, 1, 2, 3, 4, 5] (by decide +kernel) rfl rfl rfl (Nat.le_of_ble_eq_true rfl) (fun v w2 hv hl2 => ?_)
  obtain ⟨rfl, rfl⟩ := hv
  change G _ _ _ (wTa w ks (z_u (z_u ss a ((p / 21 : Nat) : Int)) b ((p % 21 : Nat) : Int)) n who ties)
  refine hG.1 [] 80 _ _ _ _ ?_
  refine hG.2.1 (c_Ta_burden (ss := z_u (z_u ss a ((p / 21 : Nat) : Int)) b ((p % 21 : Nat) : Int)) hc hL (zOkS_p hp hS) hW) yv_Ta_burden lk_Ta_66 (by decide +kernel) rfl rfl [0, 1, 2, 3, 4, 5] (by decide +kernel) rfl rfl rfl (Nat.le_of_ble_eq_true rfl) (fun v w2 hv hl2 => ?_)
  obtain ⟨rfl, rfl⟩ := hv
  change G _ _ _ (wTa w ks (z_u (z_u ss a ((p / 21 : Nat) : Int)) b ((p % 21 : Nat) : Int)) n who ties)
  refine hG.1 [] 80 _ _ _ _ ?_
  refine hG.2.1 (c_Co_putSlip (ss := z_u (z_u ss a ((p / 21 : Nat) : Int)) b ((p % 21 : Nat) : Int)) (x := ss a) ha hn) yv_Co_putSlip lk_Ta_62 (by decide +kernel) rfl rfl [3, 4, 5] (by decide +kernel) rfl rfl rfl (Nat.le_of_ble_eq_true rfl) (fun v w2 hv hl2 => ?_)
  obtain ⟨rfl, rfl⟩ := hv
  change G _ _ _ (wTa w ks (z_u (z_u (z_u ss a ((p / 21 : Nat) : Int)) b ((p % 21 : Nat) : Int)) a (ss a)) n who ties)
  refine hG.1 [] 80 _ _ _ _ ?_
  refine hG.2.1 (c_Co_putSlip (ss := z_u (z_u (z_u ss a ((p / 21 : Nat) : Int)) b ((p % 21 : Nat) : Int)) a (ss a)) (x := ss b) hb hn) yv_Co_putSlip lk_Ta_62 (by decide +kernel) rfl rfl [3, 4, 5] (by decide +kernel) rfl rfl rfl (Nat.le_of_ble_eq_true rfl) (fun v w2 hv hl2 => ?_)
  obtain ⟨rfl, rfl⟩ := hv
  change G _ _ _ (wTa w ks (z_u (z_u (z_u (z_u ss a ((p / 21 : Nat) : Int)) b ((p % 21 : Nat) : Int)) a (ss a)) b (ss b)) n who ties)
  have e : z_u (z_u (z_u (z_u ss a ((p / 21 : Nat) : Int)) b ((p % 21 : Nat) : Int)) a (ss a)) b (ss b) = ss := by
    refine zPairBack (fun x y => ?_)
    rw [z_u_comm _ (show ((b : Nat) : Int) ≠ a by omega), z_u_u, z_u_u]
  rw [e]
  refine hG.1 [] 80 _ _ _ _ ?_
  exact ⟨trivial, rfl, rfl⟩
theorem zHp_lt {f : Nat → Int} {en : Int} : ∀ (d p h : Nat) (m : Int), p + d = 441 → h < 441 → (zHp f en d p h m).1 < 441
  | 0, p, h, m, _, hh => hh
  | d + 1, p, h, m, hp, hh => by
    unfold zHp
    split
    · split
      · exact zHp_lt d (p + 1) p _ (by omega) (by omega)
      · exact zHp_lt d (p + 1) h m (by omega) hh
    · exact hh
theorem c_Ta_hardestPair {a b c : Nat} {en : Int} (ha : a < n) (hb : b < n) (hc : c < n) (hL : zOkL n who ties) (hS : zOkS ss n) (hW : zOkW w) (hab : a ≠ b) (hen : 0 ≤ en ∧ en ≤ 1000000000) :
    zMet m_Ta_hardestPair [.inr (.inr 0), .inl a, .inl b, .inl c, .inr (.inl en)] (wTa w ks ss n who ties) (fun v wd => v = some (.inl ((zHp (zFp w ss n who ties a b c) en 441 0 0 (-1)).1 : Int)) ∧ wd = wTa w ks ss n who ties) := by
  have hn := hL.1
  have hwb := zWei21 hW
  have hf : ∀ p, 0 ≤ zFp w ss n who ties a b c p ∧ zFp w ss n who ties a b c p ≤ 2520 * zWeiN w 21 := fun p => zBu_in hW
  refine zMet.of (own := RX4) rfl (by decide +kernel) tk_Ta_hardestPair fok_Ta cok_Ta (Nat.le_of_ble_eq_true rfl) (fun G hG => ?_)
  refine hG.1 [] 80 _ _ _ _ ?_
  refine hG.2.1 (c_Co_slipOf (ss := ss) ha hn) yv_Co_slipOf lk_Ta_59 (by decide +kernel) rfl rfl [3, 4, 5] (by decide +kernel) rfl rfl rfl (Nat.le_of_ble_eq_true rfl) (fun v w2 hv hl2 => ?_)
  obtain ⟨rfl, rfl⟩ := hv
  change G _ _ _ (wTa w ks ss n who ties)
  refine hG.1 [] 80 _ _ _ _ ?_
  refine hG.2.1 (c_Co_slipOf (ss := ss) hb hn) yv_Co_slipOf lk_Ta_59 (by decide +kernel) rfl rfl [3, 4, 5] (by decide +kernel) rfl rfl rfl (Nat.le_of_ble_eq_true rfl) (fun v w2 hv hl2 => ?_)
  obtain ⟨rfl, rfl⟩ := hv
  change G _ _ _ (wTa w ks ss n who ties)
  refine hG.1 [31] 80 _ _ _ _ ?_
  -- behind the loop
  have out : ∀ (s' : Int → Int) (h i : Nat) (m : Int), (∀ x y : Int, z_u (z_u s' a x) b y = z_u (z_u ss a x) b y) → zHp (zFp w ss n who ties a b c) en 441 0 0 (-1) = (h, m) →
      G 84 [(0, .inr (.inr 0)), (1, .inl (a : Int)), (2, .inl (b : Int)), (3, .inl (c : Int)), (4, .inr (.inl en)), (6, .inl (ss a)), (7, .inl (ss b)), (8, .inl (h : Int)), (9, .inr (.inl m)), (11, .inl (i : Int))] [] (wTa w ks s' n who ties) := by
    intro s' h i m hs' he
    refine hG.1 [] 80 _ _ _ _ ?_
    refine hG.2.1 (c_Co_putSlip (ss := s') (x := ss a) ha hn) yv_Co_putSlip lk_Ta_62 (by decide +kernel) rfl rfl [3, 4, 5] (by decide +kernel) rfl rfl rfl (Nat.le_of_ble_eq_true rfl) (fun v w2 hv hl2 => ?_)
    obtain ⟨rfl, rfl⟩ := hv
    change G _ _ _ (wTa w ks (z_u s' a (ss a)) n who ties)
    refine hG.1 [] 80 _ _ _ _ ?_
    refine hG.2.1 (c_Co_putSlip (ss := z_u s' a (ss a)) (x := ss b) hb hn) yv_Co_putSlip lk_Ta_62 (by decide +kernel) rfl rfl [3, 4, 5] (by decide +kernel) rfl rfl rfl (Nat.le_of_ble_eq_true rfl) (fun v w2 hv hl2 => ?_)
    obtain ⟨rfl, rfl⟩ := hv
    change G _ _ _ (wTa w ks (z_u (z_u s' a (ss a)) b (ss b)) n who ties)
    rw [zPairBack hs']
    refine hG.1 [] 80 _ _ _ _ ?_
    exact ⟨trivial, by rw [he], rfl⟩
  have key : ∀ d i : Nat, i + d = 441 → ∀ (h : Nat) (m : Int) (s' : Int → Int), (∀ x y : Int, z_u (z_u s' a x) b y = z_u (z_u ss a x) b y) → h < 441 → (-1 ≤ m ∧ m ≤ 2520 * zWeiN w 21) → zHp (zFp w ss n who ties a b c) en d i h m = zHp (zFp w ss n who ties a b c) en 441 0 0 (-1) →
      G 31 [(0, .inr (.inr 0)), (1, .inl (a : Int)), (2, .inl (b : Int)), (3, .inl (c : Int)), (4, .inr (.inl en)), (6, .inl (ss a)), (7, .inl (ss b)), (8, .inl (h : Int)), (9, .inr (.inl m)), (11, .inl (i : Int))] [] (wTa w ks s' n who ties) := by
    intro d
    induction d with
    | zero =>
      intro i hi h m s' hs' hh hm he
      refine hG.1 [84] 80 _ _ _ _ ?_
      refine ⟨by omega, fun h1 => ?_, fun h1 => absurd h1 (by omega)⟩
      exact out s' h i m hs' he.symm
    | succ d ih =>
      intro i hi h m s' hs' hh hm he
      have he2 : (if m < en then (if m < zFp w ss n who ties a b c i then zHp (zFp w ss n who ties a b c) en d (i + 1) i (zFp w ss n who ties a b c i) else zHp (zFp w ss n who ties a b c) en d (i + 1) h m) else (h, m)) = zHp (zFp w ss n who ties a b c) en 441 0 0 (-1) := he
      have hfi := hf i
      refine hG.1 [84] 80 _ _ _ _ ?_
      refine ⟨by omega, fun h1 => absurd h1 (by omega), fun h1 => ?_⟩
      refine ⟨by omega, fun h2 => ?_, fun h2 => ?_⟩
      · rw [if_neg (by omega)] at he2
        exact out s' h i m hs' he2.symm
      · rw [if_pos h2] at he2
        refine hG.2.1 (c_Ta_putPair (ss := s') (p := i) ha hb (by omega) hn) yv_Ta_putPair lk_Ta_93 (by decide +kernel) rfl rfl [0, 1, 2, 3, 4, 5] (by decide +kernel) rfl rfl rfl (Nat.le_of_ble_eq_true rfl) (fun v w2 hv hl2 => ?_)
        obtain ⟨rfl, rfl⟩ := hv
        change G _ _ _ (wTa w ks (z_u (z_u s' a ((i / 21 : Nat) : Int)) b ((i % 21 : Nat) : Int)) n who ties)
        rw [hs']
        refine hG.1 [] 80 _ _ _ _ ?_
        refine hG.2.1 (c_Ta_burden (ss := z_u (z_u ss a ((i / 21 : Nat) : Int)) b ((i % 21 : Nat) : Int)) hc hL (zOkS_p (by omega) hS) hW) yv_Ta_burden lk_Ta_66 (by decide +kernel) rfl rfl [0, 1, 2, 3, 4, 5] (by decide +kernel) rfl rfl rfl (Nat.le_of_ble_eq_true rfl) (fun v w2 hv hl2 => ?_)
        obtain ⟨rfl, rfl⟩ := hv
        change G _ _ _ (wTa w ks (z_u (z_u ss a ((i / 21 : Nat) : Int)) b ((i % 21 : Nat) : Int)) n who ties)
        have back : zBu w (z_u (z_u ss a ((i / 21 : Nat) : Int)) b ((i % 21 : Nat) : Int)) n who ties c = zFp w ss n who ties a b c i := rfl
        rw [back]
        have hs2 : ∀ x y : Int, z_u (z_u (z_u (z_u ss a ((i / 21 : Nat) : Int)) b ((i % 21 : Nat) : Int)) a x) b y = z_u (z_u ss a x) b y := fun x y => by
          rw [z_u_comm _ (show ((b : Nat) : Int) ≠ a by omega), z_u_u, z_u_u]
        refine hG.1 [31] 80 _ _ _ _ ?_
        refine ⟨by omega, fun h3 => ?_, fun h3 => ?_⟩
        · rw [if_neg (by omega)] at he2
          exact hG.2.2.2.2.1 (fun q hq => List.mem_append_left _ hq) (ih (i + 1) (by omega) h m _ hs2 hh hm he2)
        · rw [if_pos h3] at he2
          exact hG.2.2.2.2.1 (fun q hq => List.mem_append_left _ hq) (ih (i + 1) (by omega) i _ _ hs2 (by omega) (by omega) he2)
  exact key 441 0 rfl 0 (-1) ss (fun _ _ => rfl) (by omega) (by omega) rfl
theorem c_Ta_safestSlip {a b c : Nat} (ha : a < n) (hb : b < n) (hc : c < n) (hL : zOkL n who ties) (hS : zOkS ss n) (hW : zOkW w) (hab : a ≠ b) :
    zMet m_Ta_safestSlip [.inr (.inr 0), .inl a, .inl b, .inl c] (wTa w ks ss n who ties) (fun v wd => v = some (.inl ((zSf w ss n who ties a b c 21).1 : Int)) ∧ wd = wTa w ks ss n who ties) := by
  have hn := hL.1
  have hwb := zWei21 hW
  have hle : ∀ k, 0 ≤ (zSf w ss n who ties a b c k).2 ∧ (zSf w ss n who ties a b c k).2 ≤ 2520 * zWeiN w 21 + 1 := by
    intro k
    induction k with
    | zero => show 0 ≤ 2520 * zWeiN w 21 + 1 ∧ 2520 * zWeiN w 21 + 1 ≤ _; omega
    | succ k ih =>
      unfold zSf
      split
      · have := zBu_in (w := w) (ss := z_u (z_u (z_u ss c k) a (((zHp (zFp w (z_u ss c k) n who ties a b c) (zSf w ss n who ties a b c k).2 441 0 0 (-1)).1 / 21 : Nat) : Int)) b (((zHp (zFp w (z_u ss c k) n who ties a b c) (zSf w ss n who ties a b c k).2 441 0 0 (-1)).1 % 21 : Nat) : Int)) (n := n) (who := who) (ties := ties) (g := c) hW
        unfold zFp at this ⊢
        dsimp only at this ⊢
        omega
      · exact ih
  refine zMet.of (own := RX4) rfl (by decide +kernel) tk_Ta_safestSlip fok_Ta cok_Ta (Nat.le_of_ble_eq_true rfl) (fun G hG => ?_)
  refine hG.1 [] 80 _ _ _ _ ?_
  refine hG.2.1 (c_Co_slipOf (ss := ss) hc hn) yv_Co_slipOf lk_Ta_59 (by decide +kernel) rfl rfl [3, 4, 5] (by decide +kernel) rfl rfl rfl (Nat.le_of_ble_eq_true rfl) (fun v w2 hv hl2 => ?_)
  obtain ⟨rfl, rfl⟩ := hv
  change G _ _ _ (wTa w ks ss n who ties)
  refine hG.1 [] 80 _ _ _ _ ?_
  refine hG.2.1 (c_Ta_wholeBurden (ss := ss) hW) yv_Ta_wholeBurden lk_Ta_70 (by decide +kernel) rfl rfl [0, 1, 2, 3, 4, 5] (by decide +kernel) rfl rfl rfl (Nat.le_of_ble_eq_true rfl) (fun v w2 hv hl2 => ?_)
  obtain ⟨rfl, rfl⟩ := hv
  change G _ _ _ (wTa w ks ss n who ties)
  refine hG.1 [24] 80 _ _ _ _ ?_
  suffices L : ∀ i, i ≤ 21 → ∀ s' : Int → Int, (∀ x, z_u s' c x = z_u ss c x) → G 24 [(0, .inr (.inr 0)), (1, .inl (a : Int)), (2, .inl (b : Int)), (3, .inl (c : Int)), (4, .inl (ss c)), (5, .inl ((zSf w ss n who ties a b c i).1 : Int)), (6, .inr (.inl (zSf w ss n who ties a b c i).2)), (8, .inl (i : Int))] [] (wTa w ks s' n who ties) from L 0 (by omega) ss (fun _ => rfl)
  refine z_up (fun s' hs' => ?_) (fun i hi ih s' hs' => ?_)
  · refine hG.1 [] 80 _ _ _ _ ?_
    refine ⟨by omega, fun h1 => ?_, fun h1 => absurd h1 (by omega)⟩
    refine hG.2.1 (c_Co_putSlip (ss := s') (x := ss c) hc hn) yv_Co_putSlip lk_Ta_62 (by decide +kernel) rfl rfl [3, 4, 5] (by decide +kernel) rfl rfl rfl (Nat.le_of_ble_eq_true rfl) (fun v w2 hv hl2 => ?_)
    obtain ⟨rfl, rfl⟩ := hv
    change G _ _ _ (wTa w ks (z_u s' c (ss c)) n who ties)
    rw [hs', z_u_self]
    refine hG.1 [] 80 _ _ _ _ ?_
    exact ⟨trivial, rfl, rfl⟩
  · have e : zSf w ss n who ties a b c (i + 1) = if zFp w (z_u ss c i) n who ties a b c (zHp (zFp w (z_u ss c i) n who ties a b c) (zSf w ss n who ties a b c i).2 441 0 0 (-1)).1 < (zSf w ss n who ties a b c i).2 then (i, zFp w (z_u ss c i) n who ties a b c (zHp (zFp w (z_u ss c i) n who ties a b c) (zSf w ss n who ties a b c i).2 441 0 0 (-1)).1) else zSf w ss n who ties a b c i := rfl
    have hlei := hle i
    have hok2 : zOkS (z_u ss c i) n := zOkS_u hS (by omega)
    have ih := ih (z_u ss c i) (fun x => z_u_u ss c i x)
    generalize hH : (zHp (zFp w (z_u ss c i) n who ties a b c) (zSf w ss n who ties a b c i).2 441 0 0 (-1)).1 = hp at e
    have hhp : hp < 441 := by rw [← hH]; exact zHp_lt 441 0 0 (-1) rfl (by omega)
    have hfp : 0 ≤ zFp w (z_u ss c i) n who ties a b c hp ∧ zFp w (z_u ss c i) n who ties a b c hp ≤ 2520 * zWeiN w 21 := zBu_in hW
    refine hG.1 [24] 80 _ _ _ _ ?_
    refine ⟨by omega, fun h1 => absurd h1 (by omega), fun h1 => ?_⟩
    refine hG.2.1 (c_Co_putSlip (ss := s') (x := (i : Int)) hc hn) yv_Co_putSlip lk_Ta_62 (by decide +kernel) rfl rfl [3, 4, 5] (by decide +kernel) rfl rfl rfl (Nat.le_of_ble_eq_true rfl) (fun v w2 hv hl2 => ?_)
    obtain ⟨rfl, rfl⟩ := hv
    change G _ _ _ (wTa w ks (z_u s' c i) n who ties)
    rw [hs']
    refine hG.1 [24] 80 _ _ _ _ ?_
    refine hG.2.1 (c_Ta_hardestPair (ss := z_u ss c i) (en := (zSf w ss n who ties a b c i).2) ha hb hc hL hok2 hW hab (by omega)) yv_Ta_hardestPair lk_Ta_97 (by decide +kernel) rfl rfl [0, 1, 2, 3, 4, 5] (by decide +kernel) rfl rfl rfl (Nat.le_of_ble_eq_true rfl) (fun v w2 hv hl2 => ?_)
    obtain ⟨rfl, rfl⟩ := hv
    change G _ _ _ (wTa w ks (z_u ss c i) n who ties)
    rw [hH]
    refine hG.1 [24] 80 _ _ _ _ ?_
    refine hG.2.1 (c_Ta_burdenByPair (ss := z_u ss c i) (p := hp) ha hb hc hhp hL hok2 hW hab) yv_Ta_burdenByPair lk_Ta_101 (by decide +kernel) rfl rfl [0, 1, 2, 3, 4, 5] (by decide +kernel) rfl rfl rfl (Nat.le_of_ble_eq_true rfl) (fun v w2 hv hl2 => ?_)
    obtain ⟨rfl, rfl⟩ := hv
    change G _ _ _ (wTa w ks (z_u ss c i) n who ties)
    refine hG.1 [24] 80 _ _ _ _ ?_
    refine ⟨by omega, fun h2 => ?_, fun h2 => ?_⟩
    · rw [e, if_neg (by omega)] at ih
      exact hG.2.2.2.2.1 (fun q hq => List.mem_append_left _ hq) ih
    · rw [e, if_pos h2] at ih
      exact hG.2.2.2.2.1 (fun q hq => List.mem_append_left _ hq) ih
end Lg
end
section
/-! FARTHESTPAYS: the static methods -/
def zEu : Nat → Nat → Nat → Nat
  | 0, c, _ => c
  | d + 1, c, r => if r = 0 then c else zEu d r (c % r)
theorem zEu_gcd : ∀ (m d c r : Nat), r < 2 ^ m → 2 * m + 1 ≤ d → zEu d c r = Nat.gcd c r
  | 0, d, c, r, hr, hd => by
    have h0 : r = 0 := by simpa using hr
    obtain ⟨e, rfl⟩ : ∃ e, d = e + 1 := ⟨d - 1, by omega⟩
    unfold zEu; rw [if_pos h0, h0, Nat.gcd_zero_right]
  | m + 1, d, c, r, hr, hd => by
    obtain ⟨e, rfl⟩ : ∃ e, d = e + 2 := ⟨d - 2, by omega⟩
    unfold zEu
    by_cases h0 : r = 0
    · rw [if_pos h0, h0, Nat.gcd_zero_right]
    · rw [if_neg h0]
      have hlt : c % r < r := Nat.mod_lt _ (by omega)
      have hg : Nat.gcd c r = Nat.gcd r (c % r) := by
        rw [Nat.gcd_comm c r, Nat.gcd_rec r c, Nat.gcd_comm]
      rw [hg]
      unfold zEu
      by_cases h1 : c % r = 0
      · rw [if_pos h1, h1, Nat.gcd_zero_right]
      · rw [if_neg h1]
        have hlt2 : r % (c % r) < c % r := Nat.mod_lt _ (by omega)
        have hg2 : Nat.gcd r (c % r) = Nat.gcd (c % r) (r % (c % r)) := by
          rw [Nat.gcd_comm r (c % r), Nat.gcd_rec (c % r) r, Nat.gcd_comm]
        have hsm : r % (c % r) + c % r ≤ r := by
          have h2 := Nat.div_add_mod r (c % r)
          have h3 : 1 ≤ r / (c % r) := (Nat.one_le_div_iff (by omega)).mpr (by omega)
          have h4 : (c % r) * 1 ≤ (c % r) * (r / (c % r)) := Nat.mul_le_mul_left _ h3
          omega
        rw [hg2]
        refine zEu_gcd m e _ _ ?_ (by omega)
        rw [Nat.pow_succ] at hr
        omega
def zLow (t b : Nat) (part : Int) : Int := if part = 0 then ((t / Nat.gcd b t : Nat) : Int) else ((b / Nat.gcd b t : Nat) : Int)
theorem c_Fp_lowest {t b : Nat} {part : Int} (ht : t < 2 ^ 60) (hb : 0 < b ∧ b < 2 ^ 60) (hp : part = 0 ∨ part = 1) : zMet m_Fp_lowest [.inr (.inl (t : Int)), .inr (.inl (b : Int)), .inl part] [] (fun v w => v = some (.inr (.inl (zLow t b part))) ∧ w = []) := by
  have e60 : (2 : Nat) ^ 60 = 1152921504606846976 := by decide
  rw [e60] at ht hb
  have hE : zEu 200 b t = Nat.gcd b t := zEu_gcd 60 200 b t (by rw [e60]; exact ht) (by omega)
  have hgpos : 0 < Nat.gcd b t := Nat.gcd_pos_of_pos_left _ hb.1
  have hgle : Nat.gcd b t ≤ b := Nat.gcd_le_left _ hb.1
  refine zMet.of (own := RX6) rfl (by decide +kernel) tk_Fp_lowest fok_Fp cok_Fp (Nat.le_of_ble_eq_true rfl) (fun G hG => ?_)
  refine hG.1 [9] 80 _ _ _ _ ?_
  have out : ∀ (i r : Nat), G 45 [(0, .inr (.inl (t : Int))), (2, .inr (.inl (b : Int))), (4, .inl part), (5, .inr (.inl ((Nat.gcd b t : Nat) : Int))), (7, .inr (.inl (r : Int))), (9, .inl (i : Int))] [] [] := by
    intro i r
    refine hG.1 [] 80 _ _ _ _ ?_
    refine ⟨by omega, fun h1 => ?_, fun h1 => absurd h1 (by omega)⟩
    refine ⟨by omega, fun h2 => ?_, fun h2 => ?_⟩
    · refine ⟨by omega, trivial, ?_, rfl⟩
      rw [zLow, if_neg h2, Int.natCast_ediv]
    · refine ⟨by omega, trivial, ?_, rfl⟩
      rw [zLow, if_pos h2, Int.natCast_ediv]
  have key : ∀ d i : Nat, i + d = 200 → ∀ c r : Nat, c < 1152921504606846976 → r < 1152921504606846976 → zEu d c r = Nat.gcd b t → G 9 [(0, .inr (.inl (t : Int))), (2, .inr (.inl (b : Int))), (4, .inl part), (5, .inr (.inl (c : Int))), (7, .inr (.inl (r : Int))), (9, .inl (i : Int))] [] [] := by
    intro d
    induction d with
    | zero =>
      intro i hi c r hc hr he
      have he : c = Nat.gcd b t := he
      refine hG.1 [45] 80 _ _ _ _ ?_
      refine ⟨by omega, fun h1 => ?_, fun h1 => absurd h1 (by omega)⟩
      rw [he]; exact out i r
    | succ d ih =>
      intro i hi c r hc hr he
      have he2 : (if r = 0 then c else zEu d r (c % r)) = Nat.gcd b t := he
      refine hG.1 [45, 9] 80 _ _ _ _ ?_
      refine ⟨by omega, fun h1 => absurd h1 (by omega), fun h1 => ?_⟩
      refine ⟨by omega, fun h2 => ?_, fun h2 => ?_⟩
      · rw [if_pos (by omega)] at he2
        rw [he2]; exact out i r
      · rw [if_neg (by omega)] at he2
        have hm : c % r < r := Nat.mod_lt _ (by omega)
        have := ih (i + 1) (by omega) r (c % r) hr (by omega) he2
        rw [Int.natCast_emod] at this
        exact ⟨by omega, hG.2.2.2.2.1 (fun q hq => List.mem_append_left _ hq) this⟩
  exact key 200 0 rfl b t hb.2 ht hE
theorem c_Fp_isPart {x : Int} (h : -2147483648 ≤ x ∧ x ≤ 2147483647) : zMet m_Fp_isPart [.inl x] [] (fun v w => z_bool (x = 0 ∨ x = 1) v ∧ w = []) := by
  refine zMet.of (own := RX6) rfl (by decide +kernel) tk_Fp_isPart fok_Fp cok_Fp (Nat.le_of_ble_eq_true rfl) (fun G hG => ?_)
  refine hG.1 [] 80 _ _ _ _ ?_
  refine ⟨by omega, fun h1 => ?_, fun h1 => ?_⟩
  · exact ⟨Or.inr rfl, Or.inl ⟨Or.inl h1, rfl⟩, rfl⟩
  · refine ⟨by omega, fun h2 => ?_, fun h2 => ?_⟩
    · exact ⟨Or.inl rfl, Or.inr ⟨by omega, rfl⟩, rfl⟩
    · exact ⟨Or.inr rfl, Or.inl ⟨Or.inr h2, rfl⟩, rfl⟩
theorem c_Fp_isSheet {x : Int} (h : -2147483648 ≤ x ∧ x ≤ 2147483647) : zMet m_Fp_isSheet [.inl x] [] (fun v w => z_bool (0 ≤ x ∧ x < 4) v ∧ w = []) := by
  refine zMet.of (own := RX6) rfl (by decide +kernel) tk_Fp_isSheet fok_Fp cok_Fp (Nat.le_of_ble_eq_true rfl) (fun G hG => ?_)
  refine hG.1 [] 80 _ _ _ _ ?_
  refine ⟨by omega, fun h1 => ?_, fun h1 => ?_⟩
  · exact ⟨Or.inl rfl, Or.inr ⟨by omega, rfl⟩, rfl⟩
  · refine ⟨by omega, fun h2 => ?_, fun h2 => ?_⟩
    · exact ⟨Or.inl rfl, Or.inr ⟨by omega, rfl⟩, rfl⟩
    · exact ⟨Or.inr rfl, Or.inl ⟨by omega, rfl⟩, rfl⟩
theorem c_Fp_isLane {x : Int} (h : -2147483648 ≤ x ∧ x ≤ 2147483647) : zMet m_Fp_isLane [.inl x] [] (fun v w => z_bool (0 ≤ x ∧ x ≤ 2) v ∧ w = []) := by
  refine zMet.of (own := RX6) rfl (by decide +kernel) tk_Fp_isLane fok_Fp cok_Fp (Nat.le_of_ble_eq_true rfl) (fun G hG => ?_)
  refine hG.1 [] 80 _ _ _ _ ?_
  refine ⟨by omega, fun h1 => ?_, fun h1 => ?_⟩
  · exact ⟨Or.inl rfl, Or.inr ⟨by omega, rfl⟩, rfl⟩
  · refine ⟨by omega, fun h2 => ?_, fun h2 => ?_⟩
    · exact ⟨Or.inl rfl, Or.inr ⟨by omega, rfl⟩, rfl⟩
    · exact ⟨Or.inr rfl, Or.inl ⟨by omega, rfl⟩, rfl⟩
theorem z_and_in (x y : Int) : -2147483648 ≤ z_and x y ∧ z_and x y ≤ 2147483647 := by
  have h1 := Int32.le_toInt (Int32.ofInt x &&& Int32.ofInt y)
  have h2 := Int32.toInt_lt (Int32.ofInt x &&& Int32.ofInt y)
  unfold z_and; omega
theorem z_maskN (b : BitVec 32) : b &&& 4292870144#32 = 0#32 ↔ b.toNat < 2097152 := by
  have hm : ∀ i, i < 32 → (4292870144#32).getLsbD i = decide (21 ≤ i) := by decide +kernel
  constructor
  · intro h
    refine Nat.lt_pow_two_of_testBit (n := 21) b.toNat (fun i hi => ?_)
    rcases Nat.lt_or_ge i 32 with h32 | h32
    · have h1 := congrArg (fun z => z.getLsbD i) h
      simp only [BitVec.getLsbD_and, hm i h32, BitVec.getLsbD_zero] at h1
      have h2 : b.getLsbD i = false := by simpa [hi] using h1
      exact h2
    · exact Nat.testBit_lt_two_pow (Nat.lt_of_lt_of_le b.isLt (Nat.pow_le_pow_right (by omega) h32))
  · intro h
    refine BitVec.eq_of_getLsbD_eq (fun i hi => ?_)
    rw [BitVec.getLsbD_and, hm i hi, BitVec.getLsbD_zero]
    by_cases h21 : 21 ≤ i
    · have h2 : b.getLsbD i = false := Nat.testBit_lt_two_pow (Nat.lt_of_lt_of_le (show b.toNat < 2 ^ 21 from h) (Nat.pow_le_pow_right (by omega) h21))
      rw [h2]; rfl
    · simp [h21]
theorem z_mask {x : Int} (h : -2147483648 ≤ x ∧ x ≤ 2147483647) : z_and x (-2097152) = 0 ↔ 0 ≤ x ∧ x < 2097152 := by
  have e1 : z_and x (-2097152) = 0 ↔ (Int32.ofInt x).toBitVec &&& 4292870144#32 = 0#32 := by
    unfold z_and
    constructor
    · intro q
      have q2 : Int32.ofInt x &&& Int32.ofInt (-2097152) = 0 := Int32.toInt_inj.mp q
      exact congrArg Int32.toBitVec q2
    · intro q
      have q2 : Int32.ofInt x &&& Int32.ofInt (-2097152) = 0 := Int32.toBitVec_inj.mp q
      rw [q2]; rfl
  rw [e1, z_maskN]
  have e2 : (Int32.ofInt x).toBitVec.toNat = (x % 4294967296).toNat := by
    show (BitVec.ofInt 32 x).toNat = _
    rw [BitVec.toNat_ofInt]; rfl
  rw [e2]
  omega
theorem c_Fp_isSetOfSums {x : Int} (h : -2147483648 ≤ x ∧ x ≤ 2147483647) : zMet m_Fp_isSetOfSums [.inl x] [] (fun v w => z_bool (0 < x ∧ x < 2097152) v ∧ w = []) := by
  have hi := z_and_in x (-2097152)
  have hm := z_mask h
  refine zMet.of (own := RX6) rfl (by decide +kernel) tk_Fp_isSetOfSums fok_Fp cok_Fp (Nat.le_of_ble_eq_true rfl) (fun G hG => ?_)
  refine hG.1 [] 80 _ _ _ _ ?_
  refine ⟨by omega, fun h1 => ?_, fun h1 => ?_⟩
  · exact ⟨Or.inl rfl, Or.inr ⟨by omega, rfl⟩, rfl⟩
  · refine ⟨by omega, fun h2 => ?_, fun h2 => ?_⟩
    · exact ⟨Or.inl rfl, Or.inr ⟨fun z => h2 (hm.mpr (by omega)), rfl⟩, rfl⟩
    · have := hm.mp h2
      exact ⟨Or.inr rfl, Or.inl ⟨by omega, rfl⟩, rfl⟩
end
section
/-! FARTHESTPAYS: the calls that reach the table of now alone -/
abbrev zSD : Type := (Int → Int) × (Int × Int)
abbrev zTD : Type := (Int → Int) × (zCD × ((Int → Int) × ((Nat → zCD) × Nat)))
abbrev wFp (img : Int) (w ks ss : Int → Int) (n : Nat) (who ties : Int) (su : Int → Int) (cs : Nat → zCD) (sz : Nat) (tl : zW) : zW := .inl (6, [.inr (.inr 1), .inr (.inr 46), .inl img, .inr (.inr 91), .inr (.inr 93), .inr (.inr 95), .inr (.inr 98)]) :: ((wTa w ks ss n who ties).map (z_ren [1, 2, 3, 4, 5, 6]) ++ ((wNi su cs sz).map (z_ren (List.range' 7 39)) ++ tl))
/-- nights' cells of now among the whole object's -/
theorem fn_pick {img : Int} {w ks ss : Int → Int} {n : Nat} {who ties : Int} {su : Int → Int} {cs : Nat → zCD} {sz : Nat} {tl : zW} : (List.range' 7 39).map (z_g (wFp img w ks ss n who ties su cs sz tl)) = (wNi su cs sz).map (fun c => some (z_ren (List.range' 7 39) c)) :=
  z_emb (z_ren (List.range' 7 39)) tl (wNi su cs sz) (.inl (6, [.inr (.inr 1), .inr (.inr 46), .inl img, .inr (.inr 91), .inr (.inr 93), .inr (.inr 95), .inr (.inr 98)]) :: (wTa w ks ss n who ties).map (z_ren [1, 2, 3, 4, 5, 6]))
theorem fn_back {img : Int} {w ks ss : Int → Int} {n : Nat} {who ties : Int} {su : Int → Int} {cs : Nat → zCD} {sz : Nat} {tl : zW} {su' : Int → Int} {cs' : Nat → zCD} {sz' : Nat} : z_sct (List.range' 7 39) (List.range' 7 39) (wNi su' cs' sz') (wFp img w ks ss n who ties su cs sz tl) = wFp img w ks ss n who ties su' cs' sz' tl :=
  z_embb (List.range' 7 39) tl (wNi su' cs' sz') ((wNi su cs sz).map (z_ren (List.range' 7 39))) (.inl (6, [.inr (.inr 1), .inr (.inr 46), .inl img, .inr (.inr 91), .inr (.inr 93), .inr (.inr 95), .inr (.inr 98)]) :: (wTa w ks ss n who ties).map (z_ren [1, 2, 3, 4, 5, 6])) rfl
section Fn
variable {img : Int} {w ks ss : Int → Int} {n : Nat} {who ties : Int} {su : Int → Int} {cs : Nat → zCD} {sz : Nat} {tl : zW}
theorem c_Fp_weight {x y : Int} (hx : -2147483648 ≤ x ∧ x ≤ 2147483647) (hy : -2147483648 ≤ y ∧ y ≤ 2147483647) :
    zMet m_Fp_weight [.inr (.inr 0), .inl x, .inl y] (wFp img w ks ss n who ties su cs sz tl) (fun v wd => (((0 ≤ x ∧ x < 21) ∧ (0 ≤ y ∧ y ≤ 99)) ∧ v = some (.inl (w x)) ∧ wd = wFp img (z_u w x y) ks ss n who ties su cs sz tl) ∨ (¬ ((0 ≤ x ∧ x < 21) ∧ (0 ≤ y ∧ y ≤ 99)) ∧ v = some (.inl (-1)) ∧ wd = wFp img w ks ss n who ties su cs sz tl)) := by
  refine zMet.of (own := RX6) rfl (by decide +kernel) tk_Fp_weight fok_Fp cok_Fp (Nat.le_of_ble_eq_true rfl) (fun G hG => ?_)
  refine hG.1 [] 80 _ _ _ _ ?_
  refine hG.2.2.1 (c_Fp_isSum hx) ys_Fp_isSum (Or.inl lk_Fp_51) (by decide +kernel) rfl [] (by decide +kernel) rfl rfl rfl (Nat.le_of_ble_eq_true rfl) (fun v w2 hv hl2 => ?_)
  obtain ⟨⟨hc, rfl⟩ | ⟨hc, rfl⟩, rfl⟩ := hv
  · refine hG.1 [19] 80 _ _ _ _ ?_
    refine ⟨by omega, fun h1 => absurd h1 (by omega), fun h1 => ?_⟩
    refine ⟨by omega, fun h2 => ?_, fun h2 => ?_⟩
    · exact ⟨trivial, Or.inr ⟨by omega, rfl, rfl⟩⟩
    · refine ⟨by omega, fun h3 => ?_, fun h3 => ?_⟩
      · refine hG.1 [] 80 _ _ _ _ ?_
        refine hG.2.1 (c_Su_weightOf (w := w) hc) yv_Su_weightOf lk_Fp_58 (by decide +kernel) rfl rfl [2, 3] (by decide +kernel) rfl rfl rfl (Nat.le_of_ble_eq_true rfl) (fun v w2 hv hl2 => ?_)
        obtain ⟨rfl, rfl⟩ := hv
        change G _ _ _ (wFp img w ks ss n who ties su cs sz tl)
        refine hG.1 [] 80 _ _ _ _ ?_
        refine hG.2.1 (c_Su_putWeight (w := w) (v0 := y) hc) yv_Su_putWeight lk_Fp_62 (by decide +kernel) rfl rfl [2, 3] (by decide +kernel) rfl rfl rfl (Nat.le_of_ble_eq_true rfl) (fun v w2 hv hl2 => ?_)
        obtain ⟨rfl, rfl⟩ := hv
        change G _ _ _ (wFp img (z_u w x y) ks ss n who ties su cs sz tl)
        refine hG.1 [] 80 _ _ _ _ ?_
        exact ⟨trivial, Or.inl ⟨by omega, rfl, rfl⟩⟩
      · exact ⟨trivial, Or.inr ⟨by omega, rfl, rfl⟩⟩
  · refine hG.1 [19] 80 _ _ _ _ ?_
    refine ⟨by omega, fun h1 => ?_, fun h1 => absurd rfl h1⟩
    exact ⟨trivial, Or.inr ⟨fun z => hc z.1, rfl, rfl⟩⟩
theorem c_Fp_guest {x : Int} (hx : -2147483648 ≤ x ∧ x ≤ 2147483647) (hn : n ≤ 9) :
    zMet m_Fp_guest [.inr (.inr 0), .inl x] (wFp img w ks ss n who ties su cs sz tl) (fun v wd => ((0 ≤ x ∧ x ≤ 3) ∧ n < 9 ∧ v = some (.inl (n : Int)) ∧ wd = wFp img w (z_u ks n x) (z_u ss n 0) (n + 1) who ties su cs sz tl) ∨ ((0 ≤ x ∧ x ≤ 3) ∧ ¬ n < 9 ∧ v = some (.inl (-3)) ∧ wd = wFp img w ks ss n who ties su cs sz tl) ∨ (¬ (0 ≤ x ∧ x ≤ 3) ∧ v = some (.inl (-1)) ∧ wd = wFp img w ks ss n who ties su cs sz tl)) := by
  refine zMet.of (own := RX6) rfl (by decide +kernel) tk_Fp_guest fok_Fp cok_Fp (Nat.le_of_ble_eq_true rfl) (fun G hG => ?_)
  refine hG.1 [11] 80 _ _ _ _ ?_
  refine ⟨by omega, fun h1 => ?_, fun h1 => ?_⟩
  · exact ⟨trivial, Or.inr (Or.inr ⟨by omega, rfl, rfl⟩)⟩
  · refine ⟨by omega, fun h2 => ?_, fun h2 => ?_⟩
    · refine hG.1 [] 80 _ _ _ _ ?_
      refine hG.2.1 (c_Co_size (ks := ks) (ss := ss) (n := n) (who := who) (ties := ties)) yv_Co_size lk_Fp_69 (by decide +kernel) rfl rfl [4, 5, 6] (by decide +kernel) rfl rfl rfl (Nat.le_of_ble_eq_true rfl) (fun v w2 hv hl2 => ?_)
      obtain ⟨rfl, rfl⟩ := hv
      change G _ _ _ (wFp img w ks ss n who ties su cs sz tl)
      refine hG.1 [] 80 _ _ _ _ ?_
      refine ⟨by omega, fun h3 => ?_, fun h3 => ?_⟩
      · refine hG.2.1 (c_Co_seat (ks := ks) (ss := ss) (n := n) (who := who) (ties := ties) (k := x) (x := 0) (by omega)) yv_Co_seat lk_Fp_73 (by decide +kernel) rfl rfl [4, 5, 6] (by decide +kernel) rfl rfl rfl (Nat.le_of_ble_eq_true rfl) (fun v w2 hv hl2 => ?_)
        obtain ⟨rfl, rfl⟩ := hv
        change G _ _ _ (wFp img w (z_u ks n x) (z_u ss n 0) (n + 1) who ties su cs sz tl)
        refine hG.1 [] 80 _ _ _ _ ?_
        refine hG.2.1 (c_Co_size (ks := z_u ks n x) (ss := z_u ss n 0) (n := n + 1) (who := who) (ties := ties)) yv_Co_size lk_Fp_69 (by decide +kernel) rfl rfl [4, 5, 6] (by decide +kernel) rfl rfl rfl (Nat.le_of_ble_eq_true rfl) (fun v w2 hv hl2 => ?_)
        obtain ⟨rfl, rfl⟩ := hv
        change G _ _ _ (wFp img w (z_u ks n x) (z_u ss n 0) (n + 1) who ties su cs sz tl)
        refine hG.1 [] 80 _ _ _ _ ?_
        exact ⟨trivial, Or.inl ⟨by omega, by omega, by congr 2; omega, rfl⟩⟩
      · exact ⟨trivial, Or.inr (Or.inl ⟨by omega, by omega, rfl, rfl⟩)⟩
    · exact ⟨trivial, Or.inr (Or.inr ⟨by omega, rfl, rfl⟩)⟩
theorem c_Fp_slip {g x : Int} (hg : -2147483648 ≤ g ∧ g ≤ 2147483647) (hx : -2147483648 ≤ x ∧ x ≤ 2147483647) (hn : n ≤ 9) (hK : zOkK ks n) :
    zMet m_Fp_slip [.inr (.inr 0), .inl g, .inl x] (wFp img w ks ss n who ties su cs sz tl) (fun v wd => (((0 ≤ g ∧ g < n) ∧ (0 ≤ x ∧ x < 21)) ∧ (ks g = 2 ∧ x ≠ 0) ∧ v = some (.inl (-2)) ∧ wd = wFp img w ks ss n who ties su cs sz tl) ∨ (((0 ≤ g ∧ g < n) ∧ (0 ≤ x ∧ x < 21)) ∧ ¬ (ks g = 2 ∧ x ≠ 0) ∧ v = some (.inl (ss g)) ∧ wd = wFp img w ks (z_u ss g x) n who ties su cs sz tl) ∨ (¬ ((0 ≤ g ∧ g < n) ∧ (0 ≤ x ∧ x < 21)) ∧ v = some (.inl (-1)) ∧ wd = wFp img w ks ss n who ties su cs sz tl)) := by
  refine zMet.of (own := RX6) rfl (by decide +kernel) tk_Fp_slip fok_Fp cok_Fp (Nat.le_of_ble_eq_true rfl) (fun G hG => ?_)
  refine hG.1 [] 80 _ _ _ _ ?_
  refine hG.2.1 (c_Co_has hg hn) yv_Co_has lk_Fp_76 (by decide +kernel) rfl rfl [4, 5, 6] (by decide +kernel) rfl rfl rfl (Nat.le_of_ble_eq_true rfl) (fun v w2 hv hl2 => ?_)
  obtain ⟨⟨hc, rfl⟩ | ⟨hc, rfl⟩, rfl⟩ := hv
  · change G _ _ _ (wFp img w ks ss n who ties su cs sz tl)
    refine hG.1 [] 80 _ _ _ _ ?_
    refine ⟨by omega, fun h1 => absurd h1 (by omega), fun h1 => ?_⟩
    refine hG.2.2.1 (c_Fp_isSum hx) ys_Fp_isSum (Or.inl lk_Fp_51) (by decide +kernel) rfl [] (by decide +kernel) rfl rfl rfl (Nat.le_of_ble_eq_true rfl) (fun v w2 hv hl2 => ?_)
    obtain ⟨⟨hc2, rfl⟩ | ⟨hc2, rfl⟩, rfl⟩ := hv
    · change G _ _ _ (wFp img w ks ss n who ties su cs sz tl)
      refine hG.1 [] 80 _ _ _ _ ?_
      refine ⟨by omega, fun h2 => ?_, fun h2 => absurd h2 (by omega)⟩
      obtain ⟨k, rfl⟩ := z_nat hc.1
      have hkn : k < n := by omega
      refine hG.2.1 (c_Co_isNought hkn hn (hK k hkn)) yv_Co_isNought lk_Fp_79 (by decide +kernel) rfl rfl [4, 5, 6] (by decide +kernel) rfl rfl rfl (Nat.le_of_ble_eq_true rfl) (fun v w2 hv hl2 => ?_)
      have rest : ¬ (ks k = 2 ∧ x ≠ 0) → G 44 [(0, .inr (.inr 0)), (1, .inl (k : Int)), (2, .inl x)] [] (wFp img w ks ss n who ties su cs sz tl) := by
        intro hno
        refine hG.1 [] 80 _ _ _ _ ?_
        refine hG.2.1 (c_Co_slipOf hkn hn) yv_Co_slipOf lk_Fp_82 (by decide +kernel) rfl rfl [4, 5, 6] (by decide +kernel) rfl rfl rfl (Nat.le_of_ble_eq_true rfl) (fun v w2 hv hl2 => ?_)
        obtain ⟨rfl, rfl⟩ := hv
        change G _ _ _ (wFp img w ks ss n who ties su cs sz tl)
        refine hG.1 [] 80 _ _ _ _ ?_
        refine hG.2.1 (c_Co_putSlip (x := x) hkn hn) yv_Co_putSlip lk_Fp_85 (by decide +kernel) rfl rfl [4, 5, 6] (by decide +kernel) rfl rfl rfl (Nat.le_of_ble_eq_true rfl) (fun v w2 hv hl2 => ?_)
        obtain ⟨rfl, rfl⟩ := hv
        change G _ _ _ (wFp img w ks (z_u ss k x) n who ties su cs sz tl)
        refine hG.1 [] 80 _ _ _ _ ?_
        exact ⟨trivial, Or.inr (Or.inl ⟨⟨hc, hc2⟩, hno, rfl, rfl⟩)⟩
      obtain ⟨⟨hc3, rfl⟩ | ⟨hc3, rfl⟩, rfl⟩ := hv
      · change G _ _ _ (wFp img w ks ss n who ties su cs sz tl)
        refine hG.1 [44] 80 _ _ _ _ ?_
        refine ⟨by omega, fun h3 => absurd h3 (by omega), fun h3 => ?_⟩
        refine ⟨by omega, fun h4 => ?_, fun h4 => ?_⟩
        · exact rest (fun z => z.2 h4)
        · exact ⟨trivial, Or.inl ⟨⟨hc, hc2⟩, ⟨hc3, h4⟩, rfl, rfl⟩⟩
      · change G _ _ _ (wFp img w ks ss n who ties su cs sz tl)
        refine hG.1 [44] 80 _ _ _ _ ?_
        refine ⟨by omega, fun h3 => ?_, fun h3 => absurd rfl h3⟩
        exact rest (fun z => hc3 z.1)
    · change G _ _ _ (wFp img w ks ss n who ties su cs sz tl)
      refine hG.1 [] 80 _ _ _ _ ?_
      refine ⟨by omega, fun h2 => absurd rfl h2, fun h2 => ?_⟩
      exact ⟨trivial, Or.inr (Or.inr ⟨fun z => hc2 z.2, rfl, rfl⟩)⟩
  · change G _ _ _ (wFp img w ks ss n who ties su cs sz tl)
    refine hG.1 [] 80 _ _ _ _ ?_
    refine ⟨by omega, fun h1 => ?_, fun h1 => absurd rfl h1⟩
    exact ⟨trivial, Or.inr (Or.inr ⟨fun z => hc z.1, rfl, rfl⟩)⟩
theorem c_Fp_write {x : Int} (hx : -2147483648 ≤ x ∧ x ≤ 2147483647) (hn : n ≤ 9) (hK : zOkK ks n) (hS : zOkS ss n) (hW : zOkW w) :
    zMet m_Fp_write [.inr (.inr 0), .inl x] (wFp img w ks ss n who ties su cs sz tl) (fun v wd => ((0 ≤ x ∧ x < 21) ∧ zSumN w 21 = 0 ∧ v = some (.inl (-2)) ∧ wd = wFp img w ks ss n who ties su cs sz tl) ∨ ((0 ≤ x ∧ x < 21) ∧ zSumN w 21 ≠ 0 ∧ v = some (.inl (zChgN ks ss x (zMean w) n : Int)) ∧ wd = wFp img w ks (zWr ks ss x (zMean w) n) n who ties su cs sz tl) ∨ (¬ (0 ≤ x ∧ x < 21) ∧ v = some (.inl (-1)) ∧ wd = wFp img w ks ss n who ties su cs sz tl)) := by
  have hsum := zSumN_in hW
  have hmean := zMean_in hW
  refine zMet.of (own := RX6) rfl (by decide +kernel) tk_Fp_write fok_Fp cok_Fp (Nat.le_of_ble_eq_true rfl) (fun G hG => ?_)
  refine hG.1 [] 80 _ _ _ _ ?_
  refine hG.2.2.1 (c_Fp_isSum hx) ys_Fp_isSum (Or.inl lk_Fp_51) (by decide +kernel) rfl [] (by decide +kernel) rfl rfl rfl (Nat.le_of_ble_eq_true rfl) (fun v w2 hv hl2 => ?_)
  obtain ⟨⟨hc, rfl⟩ | ⟨hc, rfl⟩, rfl⟩ := hv
  · change G _ _ _ (wFp img w ks ss n who ties su cs sz tl)
    refine hG.1 [] 80 _ _ _ _ ?_
    refine ⟨by omega, fun h1 => ?_, fun h1 => absurd h1 (by omega)⟩
    refine hG.2.1 (c_Su_together (w := w)) yv_Su_together lk_Fp_88 (by decide +kernel) rfl rfl [2, 3] (by decide +kernel) rfl rfl rfl (Nat.le_of_ble_eq_true rfl) (fun v w2 hv hl2 => ?_)
    obtain ⟨rfl, rfl⟩ := hv
    change G _ _ _ (wFp img w ks ss n who ties su cs sz tl)
    refine hG.1 [] 80 _ _ _ _ ?_
    refine ⟨by omega, fun h2 => ?_, fun h2 => ?_⟩
    · refine hG.2.1 (c_Su_meanSum (w := w) hW) yv_Su_meanSum lk_Fp_91 (by decide +kernel) rfl rfl [2, 3] (by decide +kernel) rfl rfl rfl (Nat.le_of_ble_eq_true rfl) (fun v w2 hv hl2 => ?_)
      obtain ⟨rfl, rfl⟩ := hv
      change G _ _ _ (wFp img w ks ss n who ties su cs sz tl)
      refine hG.1 [] 80 _ _ _ _ ?_
      refine hG.2.1 (c_Co_writeAlone (ks := ks) (ss := ss) (sum := x) (mean := zMean w) hn hK hS (by omega) hmean) yv_Co_writeAlone lk_Fp_94 (by decide +kernel) rfl rfl [4, 5, 6] (by decide +kernel) rfl rfl rfl (Nat.le_of_ble_eq_true rfl) (fun v w2 hv hl2 => ?_)
      obtain ⟨rfl, rfl⟩ := hv
      change G _ _ _ (wFp img w ks (zWr ks ss x (zMean w) n) n who ties su cs sz tl)
      refine hG.1 [] 80 _ _ _ _ ?_
      exact ⟨trivial, Or.inr (Or.inl ⟨hc, h2, rfl, rfl⟩)⟩
    · exact ⟨trivial, Or.inl ⟨hc, h2, rfl, rfl⟩⟩
  · change G _ _ _ (wFp img w ks ss n who ties su cs sz tl)
    refine hG.1 [] 80 _ _ _ _ ?_
    refine ⟨by omega, fun h1 => absurd rfl h1, fun h1 => ?_⟩
    exact ⟨trivial, Or.inr (Or.inr ⟨hc, rfl, rfl⟩)⟩
theorem c_Fp_told {g x : Int} (hg : -2147483648 ≤ g ∧ g ≤ 2147483647) (hx : -2147483648 ≤ x ∧ x ≤ 2147483647) (hn : n ≤ 9) :
    zMet m_Fp_told [.inr (.inr 0), .inl g, .inl x] (wFp img w ks ss n who ties su cs sz tl) (fun v wd => v = some (.inl (if (0 ≤ g ∧ g < n) ∧ (0 ≤ x ∧ x ≤ 1) then (if x = 0 then ks g else ss g) else -1)) ∧ wd = wFp img w ks ss n who ties su cs sz tl) := by
  refine zMet.of (own := RX6) rfl (by decide +kernel) tk_Fp_told fok_Fp cok_Fp (Nat.le_of_ble_eq_true rfl) (fun G hG => ?_)
  refine hG.1 [] 80 _ _ _ _ ?_
  refine hG.2.1 (c_Co_has hg hn) yv_Co_has lk_Fp_76 (by decide +kernel) rfl rfl [4, 5, 6] (by decide +kernel) rfl rfl rfl (Nat.le_of_ble_eq_true rfl) (fun v w2 hv hl2 => ?_)
  obtain ⟨⟨hc, rfl⟩ | ⟨hc, rfl⟩, rfl⟩ := hv
  · change G _ _ _ (wFp img w ks ss n who ties su cs sz tl)
    obtain ⟨k, rfl⟩ := z_nat hc.1
    have hkn : k < n := by omega
    refine hG.1 [25] 80 _ _ _ _ ?_
    refine ⟨by omega, fun h1 => absurd h1 (by omega), fun h1 => ?_⟩
    refine ⟨by omega, fun h2 => ?_, fun h2 => ?_⟩
    · exact ⟨trivial, by rw [if_neg (by omega)], rfl⟩
    · refine ⟨by omega, fun h3 => ?_, fun h3 => ?_⟩
      · refine hG.1 [] 80 _ _ _ _ ?_
        refine ⟨by omega, fun h4 => ?_, fun h4 => ?_⟩
        · refine hG.2.1 (c_Co_slipOf hkn hn) yv_Co_slipOf lk_Fp_82 (by decide +kernel) rfl rfl [4, 5, 6] (by decide +kernel) rfl rfl rfl (Nat.le_of_ble_eq_true rfl) (fun v w2 hv hl2 => ?_)
          obtain ⟨rfl, rfl⟩ := hv
          change G _ _ _ (wFp img w ks ss n who ties su cs sz tl)
          refine hG.1 [] 80 _ _ _ _ ?_
          exact ⟨trivial, by rw [if_pos (by omega), if_neg h4] <;> rfl, rfl⟩
        · refine hG.2.1 (c_Co_kindOf hkn hn) yv_Co_kindOf lk_Fp_98 (by decide +kernel) rfl rfl [4, 5, 6] (by decide +kernel) rfl rfl rfl (Nat.le_of_ble_eq_true rfl) (fun v w2 hv hl2 => ?_)
          obtain ⟨rfl, rfl⟩ := hv
          change G _ _ _ (wFp img w ks ss n who ties su cs sz tl)
          refine hG.1 [] 80 _ _ _ _ ?_
          exact ⟨trivial, by rw [if_pos (by omega), if_pos h4] <;> rfl, rfl⟩
      · exact ⟨trivial, by rw [if_neg (by omega)], rfl⟩
  · change G _ _ _ (wFp img w ks ss n who ties su cs sz tl)
    refine hG.1 [] 80 _ _ _ _ ?_
    refine ⟨by omega, fun h1 => ?_, fun h1 => absurd rfl h1⟩
    exact ⟨trivial, by rw [if_neg (fun z => hc z.1)], rfl⟩
theorem c_Fp_rule {g x : Int} (hg : -2147483648 ≤ g ∧ g ≤ 2147483647) (hx : -2147483648 ≤ x ∧ x ≤ 2147483647) :
    zMet m_Fp_rule [.inr (.inr 0), .inl g, .inl x] (wFp img w ks ss n who ties su cs sz tl) (fun v wd => ((g = 0 ∧ 0 ≤ x ∧ x ≤ 3) ∧ v = some (.inl who) ∧ wd = wFp img w ks ss n x ties su cs sz tl) ∨ ((g = 1 ∧ 0 ≤ x ∧ x ≤ 2) ∧ v = some (.inl ties) ∧ wd = wFp img w ks ss n who x su cs sz tl) ∨ (¬ (g = 0 ∧ 0 ≤ x ∧ x ≤ 3) ∧ ¬ (g = 1 ∧ 0 ≤ x ∧ x ≤ 2) ∧ v = some (.inl (-1)) ∧ wd = wFp img w ks ss n who ties su cs sz tl)) := by
  refine zMet.of (own := RX6) rfl (by decide +kernel) tk_Fp_rule fok_Fp cok_Fp (Nat.le_of_ble_eq_true rfl) (fun G hG => ?_)
  have last : ¬ (g = 0 ∧ 0 ≤ x ∧ x ≤ 3) → G 25 [(0, .inr (.inr 0)), (1, .inl g), (2, .inl x)] [] (wFp img w ks ss n who ties su cs sz tl) := by
    intro hno
    refine hG.1 [] 80 _ _ _ _ ?_
    refine ⟨by omega, fun h1 => ?_, fun h1 => ?_⟩
    · exact ⟨trivial, Or.inr (Or.inr ⟨hno, by omega, rfl, rfl⟩)⟩
    · refine ⟨by omega, fun h2 => ?_, fun h2 => ?_⟩
      · exact ⟨trivial, Or.inr (Or.inr ⟨hno, by omega, rfl, rfl⟩)⟩
      · refine ⟨by omega, fun h3 => ?_, fun h3 => ?_⟩
        · exact ⟨trivial, Or.inr (Or.inr ⟨hno, by omega, rfl, rfl⟩)⟩
        · refine hG.2.1 (c_Co_changeTies (x := x)) yv_Co_changeTies lk_Fp_104 (by decide +kernel) rfl rfl [4, 5, 6] (by decide +kernel) rfl rfl rfl (Nat.le_of_ble_eq_true rfl) (fun v w2 hv hl2 => ?_)
          obtain ⟨rfl, rfl⟩ := hv
          change G _ _ _ (wFp img w ks ss n who x su cs sz tl)
          refine hG.1 [] 80 _ _ _ _ ?_
          exact ⟨trivial, Or.inr (Or.inl ⟨by omega, rfl, rfl⟩)⟩
  refine hG.1 [25] 80 _ _ _ _ ?_
  refine ⟨by omega, fun h1 => ?_, fun h1 => ?_⟩
  · exact last (by omega)
  · refine ⟨by omega, fun h2 => ?_, fun h2 => ?_⟩
    · exact last (by omega)
    · refine ⟨by omega, fun h3 => ?_, fun h3 => ?_⟩
      · exact last (by omega)
      · refine hG.2.1 (c_Co_changeWho (x := x)) yv_Co_changeWho lk_Fp_101 (by decide +kernel) rfl rfl [4, 5, 6] (by decide +kernel) rfl rfl rfl (Nat.le_of_ble_eq_true rfl) (fun v w2 hv hl2 => ?_)
        obtain ⟨rfl, rfl⟩ := hv
        change G _ _ _ (wFp img w ks ss n x ties su cs sz tl)
        refine hG.1 [] 80 _ _ _ _ ?_
        exact ⟨trivial, Or.inl ⟨by omega, rfl, rfl⟩⟩
theorem c_Fp_count {x : Int} (hx : -2147483648 ≤ x ∧ x ≤ 2147483647) (hW : zOkW w) :
    zMet m_Fp_count [.inr (.inr 0), .inl x] (wFp img w ks ss n who ties su cs sz tl) (fun v wd => v = some (.inl (if x = 0 then (n : Int) else if x = 1 then (zPosN w 21 : Int) else if x = 2 then zSumN w 21 else if x = 3 then (sz : Int) else -1)) ∧ wd = wFp img w ks ss n who ties su cs sz tl) := by
  refine zMet.of (own := RX6) rfl (by decide +kernel) tk_Fp_count fok_Fp cok_Fp (Nat.le_of_ble_eq_true rfl) (fun G hG => ?_)
  refine hG.1 [] 80 _ _ _ _ ?_
  refine ⟨by omega, fun h1 => ?_, fun h1 => ?_, fun h1 => ?_, fun h1 => ?_, fun h1 => ?_, trivial⟩
  · exact ⟨trivial, by rw [if_neg (by omega), if_neg (by omega), if_neg (by omega), if_neg (by omega)], rfl⟩
  · refine hG.2.1 (c_Co_size ) yv_Co_size lk_Fp_69 (by decide +kernel) rfl rfl [4, 5, 6] (by decide +kernel) rfl rfl rfl (Nat.le_of_ble_eq_true rfl) (fun v w2 hv hl2 => ?_)
    obtain ⟨rfl, rfl⟩ := hv
    change G _ _ _ (wFp img w ks ss n who ties su cs sz tl)
    refine hG.1 [] 80 _ _ _ _ ?_
    exact ⟨trivial, by rw [if_pos h1] <;> rfl, rfl⟩
  · refine hG.2.1 (c_Su_sumsOfWeight (w := w) hW) yv_Su_sumsOfWeight lk_Fp_145 (by decide +kernel) rfl rfl [2, 3] (by decide +kernel) rfl rfl rfl (Nat.le_of_ble_eq_true rfl) (fun v w2 hv hl2 => ?_)
    obtain ⟨rfl, rfl⟩ := hv
    change G _ _ _ (wFp img w ks ss n who ties su cs sz tl)
    refine hG.1 [] 80 _ _ _ _ ?_
    exact ⟨trivial, by rw [if_neg (by omega), if_pos (by omega)] <;> rfl, rfl⟩
  · refine hG.2.1 (c_Su_together (w := w)) yv_Su_together lk_Fp_88 (by decide +kernel) rfl rfl [2, 3] (by decide +kernel) rfl rfl rfl (Nat.le_of_ble_eq_true rfl) (fun v w2 hv hl2 => ?_)
    obtain ⟨rfl, rfl⟩ := hv
    change G _ _ _ (wFp img w ks ss n who ties su cs sz tl)
    refine hG.1 [] 80 _ _ _ _ ?_
    exact ⟨trivial, by rw [if_neg (by omega), if_neg (by omega), if_pos (by omega)] <;> rfl, rfl⟩
  · refine hG.2.1 (c_Ni_size (su := su) (cs := cs) (sz := sz)) yv_Ni_size lk_Fp_148 (by decide +kernel) rfl rfl (List.range' 7 39) (by decide +kernel) fn_pick rfl rfl (Nat.le_of_ble_eq_true rfl) (fun v w2 hv hl2 => ?_)
    obtain ⟨rfl, rfl⟩ := hv
    rw [fn_back]
    refine hG.1 [] 80 _ _ _ _ ?_
    exact ⟨trivial, by rw [if_neg (by omega), if_neg (by omega), if_neg (by omega), if_pos (by omega)] <;> rfl, rfl⟩
theorem c_Fp_pay {x : Int} (hx : -2147483648 ≤ x ∧ x ≤ 2147483647) (hL : zOkL n who ties) (hS : zOkS ss n) :
    zMet m_Fp_pay [.inr (.inr 0), .inl x] (wFp img w ks ss n who ties su cs sz tl) (fun v wd => v = some (.inl (if ¬ (0 ≤ x ∧ x < 21) then -1 else if n = 0 then -4 else (zMaskN (zPay ss n who ties x) n : Int))) ∧ wd = wFp img w ks ss n who ties su cs sz tl) := by
  obtain ⟨hn, hwho, hties⟩ := hL
  refine zMet.of (own := RX6) rfl (by decide +kernel) tk_Fp_pay fok_Fp cok_Fp (Nat.le_of_ble_eq_true rfl) (fun G hG => ?_)
  refine hG.1 [] 80 _ _ _ _ ?_
  refine hG.2.2.1 (c_Fp_isSum hx) ys_Fp_isSum (Or.inl lk_Fp_51) (by decide +kernel) rfl [] (by decide +kernel) rfl rfl rfl (Nat.le_of_ble_eq_true rfl) (fun v w2 hv hl2 => ?_)
  obtain ⟨⟨hc, rfl⟩ | ⟨hc, rfl⟩, rfl⟩ := hv
  · change G _ _ _ (wFp img w ks ss n who ties su cs sz tl)
    refine hG.1 [] 80 _ _ _ _ ?_
    refine ⟨by omega, fun h1 => ?_, fun h1 => absurd h1 (by omega)⟩
    refine hG.2.1 (c_Co_size ) yv_Co_size lk_Fp_69 (by decide +kernel) rfl rfl [4, 5, 6] (by decide +kernel) rfl rfl rfl (Nat.le_of_ble_eq_true rfl) (fun v w2 hv hl2 => ?_)
    obtain ⟨rfl, rfl⟩ := hv
    change G _ _ _ (wFp img w ks ss n who ties su cs sz tl)
    refine hG.1 [] 80 _ _ _ _ ?_
    refine ⟨by omega, fun h2 => ?_, fun h2 => ?_⟩
    · refine hG.2.1 (c_Co_payers (sum := x) hn hwho hties hS (by omega)) yv_Co_payers lk_Fp_149 (by decide +kernel) rfl rfl [4, 5, 6] (by decide +kernel) rfl rfl rfl (Nat.le_of_ble_eq_true rfl) (fun v w2 hv hl2 => ?_)
      obtain ⟨rfl, rfl⟩ := hv
      change G _ _ _ (wFp img w ks ss n who ties su cs sz tl)
      refine hG.1 [] 80 _ _ _ _ ?_
      exact ⟨trivial, by rw [if_neg (by omega), if_neg (by omega)] <;> rfl, rfl⟩
    · exact ⟨trivial, by rw [if_neg (by omega), if_pos (by omega)], rfl⟩
  · change G _ _ _ (wFp img w ks ss n who ties su cs sz tl)
    refine hG.1 [] 80 _ _ _ _ ?_
    refine ⟨by omega, fun h1 => absurd rfl h1, fun h1 => ?_⟩
    exact ⟨trivial, by rw [if_pos hc], rfl⟩
end Fn
end
section
/-! FARTHESTPAYS: means, best slips, leagues, nights of now -/
theorem z_orN {a b : Nat} (ha : a < 2147483648) (hb : b < 2147483648) : z_or (a : Int) (b : Int) = ((a ||| b : Nat) : Int) := by
  have e : Int32.ofInt (a : Int) ||| Int32.ofInt (b : Int) = Int32.ofInt ((a ||| b : Nat) : Int) := by
    apply Int32.toBitVec_inj.mp
    show BitVec.ofInt 32 (a : Int) ||| BitVec.ofInt 32 (b : Int) = BitVec.ofInt 32 ((a ||| b : Nat) : Int)
    rw [BitVec.ofInt_natCast, BitVec.ofInt_natCast, BitVec.ofInt_natCast]
    apply BitVec.eq_of_getLsbD_eq
    intro i hi
    simp [hi]
  have h : a ||| b < 2 ^ 31 := Nat.or_lt_two_pow (by omega) (by omega)
  unfold z_or
  rw [e, z_R (by omega)]
def zPop : Nat → Nat → Nat
  | 0, _ => 0
  | k + 1, s => s % 2 + zPop k (s / 2)
theorem z_bc : ∀ s : Nat, s < 512 → (let a := (s : Int) - z_and (z_ushr (s : Nat) 1) 1431655765
    let b := z_and a 858993459 + z_and (z_ushr a 2) 858993459
    let c := z_and (b + z_ushr b 4) 252645135
    let d := c + z_ushr c 8
    let e := d + z_ushr d 16
    z_and e 63) = (zPop 9 s : Int) := by decide +kernel
theorem c_Ja_bitCount {s : Nat} (hs : s < 512) : zMet m_Ja_bitCount [.inl s] [] (fun v w => v = some (.inl (zPop 9 s : Int)) ∧ w = []) := by
  have h := z_bc s hs
  refine zMet.of (own := "java/lang/Integer") rfl (by decide +kernel) tk_Ja_bitCount fok_Ji cok_Ji (Nat.le_of_ble_eq_true rfl) (fun G hG => ?_)
  refine hG.1 [] 80 _ _ _ _ ?_
  exact ⟨trivial, congrArg (fun z => some (Sum.inl z)) h, rfl⟩
abbrev zBit (x : Int) (k : Nat) : Prop := z_and (x / 2 ^ (k : Int).toNat) 1 = 1
noncomputable def zHs (x : Int) (f : Nat → Int) : Nat → Int × Int
  | 0 => (-1, -1)
  | k + 1 => if zBit x k ∧ (zHs x f k).2 < f k then ((k : Int), f k) else zHs x f k
noncomputable def zDue (ss : Int → Int) (n : Nat) (who ties : Int) (g : Nat) : Nat → Int := fun k => (k : Int) * zSh ss n who ties k g (zFree ss n who)
noncomputable def zChM (x : Int) (ss : Int → Int) (n : Nat) (who ties : Int) : Nat → Nat
  | 0 => 0
  | k + 1 => if 1 ≤ k ∧ zBit x k then zChM x ss n who ties k ||| zMaskN (zPay ss n who ties k) n else zChM x ss n who ties k
theorem zMask9 {p : Nat → Bool} {n : Nat} (hn : n ≤ 9) : zMaskN p n < 512 := Nat.lt_of_lt_of_le (zMaskN_lt p n) (Nat.pow_le_pow_right (by omega) hn)
theorem zChM_lt {x : Int} {ss : Int → Int} {n : Nat} {who ties : Int} (hn : n ≤ 9) : ∀ k, zChM x ss n who ties k < 512
  | 0 => Nat.zero_lt_succ _
  | k + 1 => by
    have h1 := zChM_lt (x := x) (ss := ss) (who := who) (ties := ties) hn k
    have h2 := zMask9 (p := zPay ss n who ties k) hn
    unfold zChM; split
    · exact Nat.or_lt_two_pow (n := 9) h1 h2
    · exact h1
theorem zHs_in {x : Int} {f : Nat → Int} {M : Int} (hM : 0 ≤ M) (hf : ∀ k, 0 ≤ f k ∧ f k ≤ M) : ∀ k, (-1 ≤ (zHs x f k).1 ∧ (zHs x f k).1 ≤ (k : Int)) ∧ (-1 ≤ (zHs x f k).2 ∧ (zHs x f k).2 ≤ M)
  | 0 => by show (-1 ≤ (-1 : Int) ∧ (-1 : Int) ≤ _) ∧ (-1 ≤ (-1 : Int) ∧ (-1 : Int) ≤ M); omega
  | k + 1 => by
    have h1 := zHs_in (x := x) hM hf k
    have h2 := hf k
    unfold zHs; split
    · show (-1 ≤ (k : Int) ∧ (k : Int) ≤ _) ∧ (-1 ≤ f k ∧ f k ≤ M); omega
    · omega
section Fm
variable {img : Int} {w ks ss : Int → Int} {n : Nat} {who ties : Int} {su : Int → Int} {cs : Nat → zCD} {sz : Nat} {tl : zW}
theorem c_Fp_pays {g x part : Int} (hg : -2147483648 ≤ g ∧ g ≤ 2147483647) (hx : -2147483648 ≤ x ∧ x ≤ 2147483647) (hp : -2147483648 ≤ part ∧ part ≤ 2147483647) (hL : zOkL n who ties) (hS : zOkS ss n) :
    zMet m_Fp_pays [.inr (.inr 0), .inl g, .inl x, .inl part] (wFp img w ks ss n who ties su cs sz tl) (fun v wd => v = some (.inl (if (0 ≤ g ∧ g < n) ∧ (0 ≤ x ∧ x < 21) ∧ (part = 0 ∨ part = 1) then zLow (zDue ss n who ties g.toNat x.toNat).toNat 2520 part else -1)) ∧ wd = wFp img w ks ss n who ties su cs sz tl) := by
  obtain ⟨hn, hwho, hties⟩ := hL
  refine zMet.of (own := RX6) rfl (by decide +kernel) tk_Fp_pays fok_Fp cok_Fp (Nat.le_of_ble_eq_true rfl) (fun G hG => ?_)
  refine hG.1 [] 80 _ _ _ _ ?_
  refine hG.2.1 (c_Co_has hg hn) yv_Co_has lk_Fp_76 (by decide +kernel) rfl rfl [4, 5, 6] (by decide +kernel) rfl rfl rfl (Nat.le_of_ble_eq_true rfl) (fun v w2 hv hl2 => ?_)
  obtain ⟨⟨hc, rfl⟩ | ⟨hc, rfl⟩, rfl⟩ := hv
  · change G _ _ _ (wFp img w ks ss n who ties su cs sz tl)
    refine hG.1 [] 80 _ _ _ _ ?_
    refine ⟨by omega, fun h1 => absurd h1 (by omega), fun h1 => ?_⟩
    refine hG.2.2.1 (c_Fp_isSum hx) ys_Fp_isSum (Or.inl lk_Fp_51) (by decide +kernel) rfl [] (by decide +kernel) rfl rfl rfl (Nat.le_of_ble_eq_true rfl) (fun v w2 hv hl2 => ?_)
    obtain ⟨⟨hc2, rfl⟩ | ⟨hc2, rfl⟩, rfl⟩ := hv
    · change G _ _ _ (wFp img w ks ss n who ties su cs sz tl)
      refine hG.1 [] 80 _ _ _ _ ?_
      refine ⟨by omega, fun h2 => absurd h2 (by omega), fun h2 => ?_⟩
      refine hG.2.2.1 (c_Fp_isPart hp) ys_Fp_isPart (Or.inl lk_Fp_152) (by decide +kernel) rfl [] (by decide +kernel) rfl rfl rfl (Nat.le_of_ble_eq_true rfl) (fun v w2 hv hl2 => ?_)
      obtain ⟨⟨hc3, rfl⟩ | ⟨hc3, rfl⟩, rfl⟩ := hv
      · change G _ _ _ (wFp img w ks ss n who ties su cs sz tl)
        refine hG.1 [] 80 _ _ _ _ ?_
        refine ⟨by omega, fun h3 => ?_, fun h3 => absurd h3 (by omega)⟩
        obtain ⟨k, rfl⟩ := z_nat hc.1
        obtain ⟨j, rfl⟩ := z_nat hc2.1
        have hkn : k < n := by omega
        refine hG.2.1 (c_Co_due (g := k) (sum := (j : Int)) (by omega) hn hwho hties hS (by omega)) yv_Co_due lk_Fp_155 (by decide +kernel) rfl rfl [4, 5, 6] (by decide +kernel) rfl rfl rfl (Nat.le_of_ble_eq_true rfl) (fun v w2 hv hl2 => ?_)
        obtain ⟨rfl, rfl⟩ := hv
        change G _ _ _ (wFp img w ks ss n who ties su cs sz tl)
        have hsh := zSh_in ss n who ties j k (zFree ss n who)
        have hd0 : 0 ≤ zDue ss n who ties k j := Int.mul_nonneg (by omega) hsh.1
        have hd1 : zDue ss n who ties k j ≤ 20 * 2520 := Int.mul_le_mul (by omega) hsh.2 hsh.1 (by omega)
        have back : (j : Int) * zSh ss n who ties j k (zFree ss n who) = zDue ss n who ties k j := rfl
        rw [back]
        obtain ⟨t, ht⟩ := z_nat hd0
        rw [ht]
        have e60 : (2 : Nat) ^ 60 = 1152921504606846976 := by decide
        refine hG.1 [] 80 _ _ _ _ ?_
        refine ⟨by omega, ?_⟩
        refine hG.2.2.1 (c_Fp_lowest (t := t) (b := 2520) (part := part) (by omega) (by omega) hc3) ys_Fp_lowest (Or.inl lk_Fp_160) (by decide +kernel) rfl [] (by decide +kernel) rfl rfl rfl (Nat.le_of_ble_eq_true rfl) (fun v w2 hv hl2 => ?_)
        obtain ⟨rfl, rfl⟩ := hv
        change G _ _ _ (wFp img w ks ss n who ties su cs sz tl)
        refine hG.1 [] 80 _ _ _ _ ?_
        refine Or.inl ?_
        exact ⟨trivial, by rw [if_pos ⟨hc, hc2, hc3⟩, Int.toNat_natCast, Int.toNat_natCast, ht, Int.toNat_natCast] <;> rfl, rfl⟩
      · change G _ _ _ (wFp img w ks ss n who ties su cs sz tl)
        refine hG.1 [] 80 _ _ _ _ ?_
        refine ⟨by omega, fun h3 => absurd rfl h3, fun h3 => ?_⟩
        exact ⟨trivial, by rw [if_neg (fun z => hc3 z.2.2)], rfl⟩
    · change G _ _ _ (wFp img w ks ss n who ties su cs sz tl)
      refine hG.1 [] 80 _ _ _ _ ?_
      refine ⟨by omega, fun h2 => ?_, fun h2 => absurd rfl h2⟩
      exact ⟨trivial, by rw [if_neg (fun z => hc2 z.2.1)], rfl⟩
  · change G _ _ _ (wFp img w ks ss n who ties su cs sz tl)
    refine hG.1 [] 80 _ _ _ _ ?_
    refine ⟨by omega, fun h1 => ?_, fun h1 => absurd rfl h1⟩
    exact ⟨trivial, by rw [if_neg (fun z => hc z.1)], rfl⟩
theorem c_Fp_mean {g part : Int} (hg : -2147483648 ≤ g ∧ g ≤ 2147483647) (hp : -2147483648 ≤ part ∧ part ≤ 2147483647) (hL : zOkL n who ties) (hS : zOkS ss n) (hW : zOkW w) :
    zMet m_Fp_mean [.inr (.inr 0), .inl g, .inl part] (wFp img w ks ss n who ties su cs sz tl) (fun v wd => v = some (.inr (.inl (if (0 ≤ g ∧ g < n) ∧ (part = 0 ∨ part = 1) then (if zSumN w 21 = 0 then -2 else zLow (zBu w ss n who ties g.toNat).toNat (2520 * (zSumN w 21).toNat) part) else -1))) ∧ wd = wFp img w ks ss n who ties su cs sz tl) := by
  have hL2 := hL
  obtain ⟨hn, hwho, hties⟩ := hL2
  have hsum := zSumN_in hW
  have hwei := zWei21 hW
  refine zMet.of (own := RX6) rfl (by decide +kernel) tk_Fp_mean fok_Fp cok_Fp (Nat.le_of_ble_eq_true rfl) (fun G hG => ?_)
  refine hG.1 [] 80 _ _ _ _ ?_
  refine hG.2.1 (c_Co_has hg hn) yv_Co_has lk_Fp_76 (by decide +kernel) rfl rfl [4, 5, 6] (by decide +kernel) rfl rfl rfl (Nat.le_of_ble_eq_true rfl) (fun v w2 hv hl2 => ?_)
  obtain ⟨⟨hc, rfl⟩ | ⟨hc, rfl⟩, rfl⟩ := hv
  · change G _ _ _ (wFp img w ks ss n who ties su cs sz tl)
    refine hG.1 [] 80 _ _ _ _ ?_
    refine ⟨by omega, fun h1 => absurd h1 (by omega), fun h1 => ?_⟩
    refine hG.2.2.1 (c_Fp_isPart hp) ys_Fp_isPart (Or.inl lk_Fp_152) (by decide +kernel) rfl [] (by decide +kernel) rfl rfl rfl (Nat.le_of_ble_eq_true rfl) (fun v w2 hv hl2 => ?_)
    obtain ⟨⟨hc3, rfl⟩ | ⟨hc3, rfl⟩, rfl⟩ := hv
    · change G _ _ _ (wFp img w ks ss n who ties su cs sz tl)
      refine hG.1 [] 80 _ _ _ _ ?_
      refine ⟨by omega, fun h3 => ?_, fun h3 => absurd h3 (by omega)⟩
      obtain ⟨k, rfl⟩ := z_nat hc.1
      have hkn : k < n := by omega
      refine hG.2.1 (c_Su_together (w := w)) yv_Su_together lk_Fp_88 (by decide +kernel) rfl rfl [2, 3] (by decide +kernel) rfl rfl rfl (Nat.le_of_ble_eq_true rfl) (fun v w2 hv hl2 => ?_)
      obtain ⟨rfl, rfl⟩ := hv
      change G _ _ _ (wFp img w ks ss n who ties su cs sz tl)
      obtain ⟨t, ht⟩ := z_nat hsum.1
      rw [ht]
      refine hG.1 [] 80 _ _ _ _ ?_
      refine ⟨by omega, fun h4 => ?_, fun h4 => ?_⟩
      · refine hG.2.1 (c_Ta_burden (w := w) (ks := ks) (ss := ss) (n := n) (who := who) (ties := ties) (g := k) hkn hL hS hW) yv_Ta_burden lk_Fp_168 (by decide +kernel) rfl rfl [1, 2, 3, 4, 5, 6] (by decide +kernel) rfl rfl rfl (Nat.le_of_ble_eq_true rfl) (fun v w2 hv hl2 => ?_)
        obtain ⟨rfl, rfl⟩ := hv
        change G _ _ _ (wFp img w ks ss n who ties su cs sz tl)
        have hb := zBu_in (w := w) (ss := ss) (n := n) (who := who) (ties := ties) (g := k) hW
        obtain ⟨b, hbe⟩ := z_nat hb.1
        rw [hbe]
        have e60 : (2 : Nat) ^ 60 = 1152921504606846976 := by decide
        refine hG.1 [] 80 _ _ _ _ ?_
        refine ⟨by omega, ?_⟩
        refine hG.2.2.1 (c_Fp_lowest (t := b) (b := 2520 * t) (part := part) (by omega) (by omega) hc3) ys_Fp_lowest (Or.inl lk_Fp_160) (by decide +kernel) rfl [] (by decide +kernel) rfl rfl rfl (Nat.le_of_ble_eq_true rfl) (fun v w2 hv hl2 => ?_)
        obtain ⟨rfl, rfl⟩ := hv
        change G _ _ _ (wFp img w ks ss n who ties su cs sz tl)
        refine hG.1 [] 80 _ _ _ _ ?_
        exact ⟨trivial, by rw [if_pos ⟨hc, hc3⟩, if_neg (by omega), Int.toNat_natCast, hbe, Int.toNat_natCast, ht, Int.toNat_natCast] <;> rfl, rfl⟩
      · exact ⟨trivial, by rw [if_pos ⟨hc, hc3⟩, if_pos (by omega)], rfl⟩
    · change G _ _ _ (wFp img w ks ss n who ties su cs sz tl)
      refine hG.1 [] 80 _ _ _ _ ?_
      refine ⟨by omega, fun h3 => absurd rfl h3, fun h3 => ?_⟩
      exact ⟨trivial, by rw [if_neg (fun z => hc3 z.2)], rfl⟩
  · change G _ _ _ (wFp img w ks ss n who ties su cs sz tl)
    refine hG.1 [] 80 _ _ _ _ ?_
    refine ⟨by omega, fun h1 => ?_, fun h1 => absurd rfl h1⟩
    exact ⟨trivial, by rw [if_neg (fun z => hc z.1)], rfl⟩
theorem c_Fp_best {g : Int} (hg : -2147483648 ≤ g ∧ g ≤ 2147483647) (hL : zOkL n who ties) (hS : zOkS ss n) (hW : zOkW w) :
    zMet m_Fp_best [.inr (.inr 0), .inl g] (wFp img w ks ss n who ties su cs sz tl) (fun v wd => v = some (.inl (if 0 ≤ g ∧ g < n then (if zSumN w 21 = 0 then -2 else (zLi w ss n who ties g.toNat : Int)) else -1)) ∧ wd = wFp img w ks ss n who ties su cs sz tl) := by
  have hn := hL.1
  have hsum := zSumN_in hW
  refine zMet.of (own := RX6) rfl (by decide +kernel) tk_Fp_best fok_Fp cok_Fp (Nat.le_of_ble_eq_true rfl) (fun G hG => ?_)
  refine hG.1 [] 80 _ _ _ _ ?_
  refine hG.2.1 (c_Co_has hg hn) yv_Co_has lk_Fp_76 (by decide +kernel) rfl rfl [4, 5, 6] (by decide +kernel) rfl rfl rfl (Nat.le_of_ble_eq_true rfl) (fun v w2 hv hl2 => ?_)
  obtain ⟨⟨hc, rfl⟩ | ⟨hc, rfl⟩, rfl⟩ := hv
  · change G _ _ _ (wFp img w ks ss n who ties su cs sz tl)
    refine hG.1 [] 80 _ _ _ _ ?_
    refine ⟨by omega, fun h1 => ?_, fun h1 => absurd h1 (by omega)⟩
    obtain ⟨k, rfl⟩ := z_nat hc.1
    have hkn : k < n := by omega
    refine hG.2.1 (c_Su_together (w := w)) yv_Su_together lk_Fp_88 (by decide +kernel) rfl rfl [2, 3] (by decide +kernel) rfl rfl rfl (Nat.le_of_ble_eq_true rfl) (fun v w2 hv hl2 => ?_)
    obtain ⟨rfl, rfl⟩ := hv
    change G _ _ _ (wFp img w ks ss n who ties su cs sz tl)
    refine hG.1 [] 80 _ _ _ _ ?_
    refine ⟨by omega, fun h4 => ?_, fun h4 => ?_⟩
    · refine hG.2.1 (c_Ta_lightestSlip (w := w) (ks := ks) (ss := ss) (n := n) (who := who) (ties := ties) (g := k) hkn hL hS hW) yv_Ta_lightestSlip lk_Fp_172 (by decide +kernel) rfl rfl [1, 2, 3, 4, 5, 6] (by decide +kernel) rfl rfl rfl (Nat.le_of_ble_eq_true rfl) (fun v w2 hv hl2 => ?_)
      obtain ⟨rfl, rfl⟩ := hv
      change G _ _ _ (wFp img w ks ss n who ties su cs sz tl)
      refine hG.1 [] 80 _ _ _ _ ?_
      exact ⟨trivial, by rw [if_pos hc, if_neg h4, Int.toNat_natCast] <;> rfl, rfl⟩
    · exact ⟨trivial, by rw [if_pos hc, if_pos h4], rfl⟩
  · change G _ _ _ (wFp img w ks ss n who ties su cs sz tl)
    refine hG.1 [] 80 _ _ _ _ ?_
    refine ⟨by omega, fun h1 => absurd rfl h1, fun h1 => ?_⟩
    exact ⟨trivial, by rw [if_neg hc], rfl⟩
theorem c_Fp_still (hL : zOkL n who ties) (hS : zOkS ss n) (hW : zOkW w) (hK : zOkK ks n) :
    zMet m_Fp_still [.inr (.inr 0)] (wFp img w ks ss n who ties su cs sz tl) (fun v wd => ((zSumN w 21 = 0 ∧ v = some (.inl (-2))) ∨ (zSumN w 21 ≠ 0 ∧ z_bool (∀ g : Nat, g < n → zBet w ks ss n who ties g = ss g) v)) ∧ wd = wFp img w ks ss n who ties su cs sz tl) := by
  have hsum := zSumN_in hW
  refine zMet.of (own := RX6) rfl (by decide +kernel) tk_Fp_still fok_Fp cok_Fp (Nat.le_of_ble_eq_true rfl) (fun G hG => ?_)
  refine hG.1 [] 80 _ _ _ _ ?_
  refine hG.2.1 (c_Su_together (w := w)) yv_Su_together lk_Fp_88 (by decide +kernel) rfl rfl [2, 3] (by decide +kernel) rfl rfl rfl (Nat.le_of_ble_eq_true rfl) (fun v w2 hv hl2 => ?_)
  obtain ⟨rfl, rfl⟩ := hv
  change G _ _ _ (wFp img w ks ss n who ties su cs sz tl)
  refine hG.1 [] 80 _ _ _ _ ?_
  refine ⟨by omega, fun h4 => ?_, fun h4 => ?_⟩
  · refine hG.2.1 (c_Ta_nobodyWouldChange (w := w) (ks := ks) (ss := ss) (n := n) (who := who) (ties := ties) hL hS hW hK) yv_Ta_nobodyWouldChange lk_Fp_175 (by decide +kernel) rfl rfl [1, 2, 3, 4, 5, 6] (by decide +kernel) rfl rfl rfl (Nat.le_of_ble_eq_true rfl) (fun v w2 hv hl2 => ?_)
    obtain ⟨⟨hc, rfl⟩ | ⟨hc, rfl⟩, rfl⟩ := hv
    · change G _ _ _ (wFp img w ks ss n who ties su cs sz tl)
      refine hG.1 [] 80 _ _ _ _ ?_
      refine ⟨by omega, fun h5 => absurd h5 (by omega), fun h5 => ?_⟩
      exact ⟨trivial, Or.inr ⟨h4, Or.inl ⟨hc, rfl⟩⟩, rfl⟩
    · change G _ _ _ (wFp img w ks ss n who ties su cs sz tl)
      refine hG.1 [] 80 _ _ _ _ ?_
      refine ⟨by omega, fun h5 => ?_, fun h5 => absurd rfl h5⟩
      exact ⟨trivial, Or.inr ⟨h4, Or.inr ⟨hc, rfl⟩⟩, rfl⟩
  · exact ⟨trivial, Or.inl ⟨h4, rfl⟩, rfl⟩
theorem c_Fp_turns {t : Int} (ht : -2147483648 ≤ t ∧ t ≤ 2147483647) (hL : zOkL n who ties) (hS : zOkS ss n) (hW : zOkW w) (hK : zOkK ks n) :
    zMet m_Fp_turns [.inr (.inr 0), .inl t] (wFp img w ks ss n who ties su cs sz tl) (fun v wd => ((1 ≤ t ∧ t ≤ 40) ∧ zSumN w 21 ≠ 0 ∧ v = some (.inl ((zTk w ks n who ties t.toNat 0 0 0 ss).1 : Int)) ∧ wd = wFp img w ks (zTk w ks n who ties t.toNat 0 0 0 ss).2 n who ties su cs sz tl) ∨ ((1 ≤ t ∧ t ≤ 40) ∧ zSumN w 21 = 0 ∧ v = some (.inl (-2)) ∧ wd = wFp img w ks ss n who ties su cs sz tl) ∨ (¬ (1 ≤ t ∧ t ≤ 40) ∧ v = some (.inl (-1)) ∧ wd = wFp img w ks ss n who ties su cs sz tl)) := by
  have hsum := zSumN_in hW
  refine zMet.of (own := RX6) rfl (by decide +kernel) tk_Fp_turns fok_Fp cok_Fp (Nat.le_of_ble_eq_true rfl) (fun G hG => ?_)
  refine hG.1 [13] 80 _ _ _ _ ?_
  refine ⟨by omega, fun h1 => ?_, fun h1 => ?_⟩
  · exact ⟨trivial, Or.inr (Or.inr ⟨by omega, rfl, rfl⟩)⟩
  · refine ⟨by omega, fun h2 => ?_, fun h2 => ?_⟩
    · refine hG.1 [] 80 _ _ _ _ ?_
      obtain ⟨k, rfl⟩ := z_nat (show 0 ≤ t by omega)
      refine hG.2.1 (c_Su_together (w := w)) yv_Su_together lk_Fp_88 (by decide +kernel) rfl rfl [2, 3] (by decide +kernel) rfl rfl rfl (Nat.le_of_ble_eq_true rfl) (fun v w2 hv hl2 => ?_)
      obtain ⟨rfl, rfl⟩ := hv
      change G _ _ _ (wFp img w ks ss n who ties su cs sz tl)
      refine hG.1 [] 80 _ _ _ _ ?_
      refine ⟨by omega, fun h4 => ?_, fun h4 => ?_⟩
      · refine hG.2.1 (c_Ta_takeTurns (w := w) (ks := ks) (ss := ss) (n := n) (who := who) (ties := ties) (t := k) (by omega) hL hS hW hK) yv_Ta_takeTurns lk_Fp_179 (by decide +kernel) rfl rfl [1, 2, 3, 4, 5, 6] (by decide +kernel) rfl rfl rfl (Nat.le_of_ble_eq_true rfl) (fun v w2 hv hl2 => ?_)
        obtain ⟨rfl, rfl⟩ := hv
        change G _ _ _ (wFp img w ks (zTk w ks n who ties k 0 0 0 ss).2 n who ties su cs sz tl)
        refine hG.1 [] 80 _ _ _ _ ?_
        exact ⟨trivial, Or.inl ⟨by omega, h4, rfl, rfl⟩⟩
      · exact ⟨trivial, Or.inr (Or.inl ⟨by omega, h4, rfl, rfl⟩)⟩
    · exact ⟨trivial, Or.inr (Or.inr ⟨by omega, rfl, rfl⟩)⟩
end Fm
end
section
/-! FARTHESTPAYS: three guests, the host, nights -/
abbrev z3 (n : Nat) (a b c : Int) : Prop := (0 ≤ a ∧ a < n) ∧ (0 ≤ b ∧ b < n) ∧ (0 ≤ c ∧ c < n) ∧ a ≠ b ∧ a ≠ c ∧ b ≠ c
section Fo
variable {img : Int} {w ks ss : Int → Int} {n : Nat} {who ties : Int} {su : Int → Int} {cs : Nat → zCD} {sz : Nat} {tl : zW}
theorem c_Fp_areThree {a b c : Int} (ha : -2147483648 ≤ a ∧ a ≤ 2147483647) (hb : -2147483648 ≤ b ∧ b ≤ 2147483647) (hc : -2147483648 ≤ c ∧ c ≤ 2147483647) (hn : n ≤ 9) :
    zMet m_Fp_areThree [.inr (.inr 0), .inl a, .inl b, .inl c] (wFp img w ks ss n who ties su cs sz tl) (fun v wd => z_bool (z3 n a b c) v ∧ wd = wFp img w ks ss n who ties su cs sz tl) := by
  refine zMet.of (own := RX6) rfl (by decide +kernel) tk_Fp_areThree fok_Fp cok_Fp (Nat.le_of_ble_eq_true rfl) (fun G hG => ?_)
  refine hG.1 [] 80 _ _ _ _ ?_
  refine hG.2.1 (c_Co_has ha hn) yv_Co_has lk_Fp_76 (by decide +kernel) rfl rfl [4, 5, 6] (by decide +kernel) rfl rfl rfl (Nat.le_of_ble_eq_true rfl) (fun v w2 hv hl2 => ?_)
  obtain ⟨⟨h1, rfl⟩ | ⟨h1, rfl⟩, rfl⟩ := hv
  · change G _ _ _ (wFp img w ks ss n who ties su cs sz tl)
    refine hG.1 [] 80 _ _ _ _ ?_
    refine ⟨by omega, fun q => absurd q (by omega), fun q => ?_⟩
    refine hG.2.1 (c_Co_has hb hn) yv_Co_has lk_Fp_76 (by decide +kernel) rfl rfl [4, 5, 6] (by decide +kernel) rfl rfl rfl (Nat.le_of_ble_eq_true rfl) (fun v w2 hv hl2 => ?_)
    obtain ⟨⟨h2, rfl⟩ | ⟨h2, rfl⟩, rfl⟩ := hv
    · change G _ _ _ (wFp img w ks ss n who ties su cs sz tl)
      refine hG.1 [] 80 _ _ _ _ ?_
      refine ⟨by omega, fun q => absurd q (by omega), fun q => ?_⟩
      refine hG.2.1 (c_Co_has hc hn) yv_Co_has lk_Fp_76 (by decide +kernel) rfl rfl [4, 5, 6] (by decide +kernel) rfl rfl rfl (Nat.le_of_ble_eq_true rfl) (fun v w2 hv hl2 => ?_)
      obtain ⟨⟨h3, rfl⟩ | ⟨h3, rfl⟩, rfl⟩ := hv
      · change G _ _ _ (wFp img w ks ss n who ties su cs sz tl)
        refine hG.1 [] 80 _ _ _ _ ?_
        refine ⟨by omega, fun q => absurd q (by omega), fun q => ?_⟩
        refine ⟨by omega, fun q1 => ?_, fun q1 => ?_⟩
        · exact ⟨Or.inl rfl, Or.inr ⟨fun z => z.2.2.2.1 q1, rfl⟩, rfl⟩
        · refine ⟨by omega, fun q2 => ?_, fun q2 => ?_⟩
          · exact ⟨Or.inl rfl, Or.inr ⟨fun z => z.2.2.2.2.1 q2, rfl⟩, rfl⟩
          · refine ⟨by omega, fun q3 => ?_, fun q3 => ?_⟩
            · exact ⟨Or.inl rfl, Or.inr ⟨fun z => z.2.2.2.2.2 q3, rfl⟩, rfl⟩
            · exact ⟨Or.inr rfl, Or.inl ⟨⟨h1, h2, h3, q1, q2, q3⟩, rfl⟩, rfl⟩
      · change G _ _ _ (wFp img w ks ss n who ties su cs sz tl)
        refine hG.1 [] 80 _ _ _ _ ?_
        refine ⟨by omega, fun q => ?_, fun q => absurd rfl q⟩
        exact ⟨Or.inl rfl, Or.inr ⟨fun z => h3 z.2.2.1, rfl⟩, rfl⟩
    · change G _ _ _ (wFp img w ks ss n who ties su cs sz tl)
      refine hG.1 [] 80 _ _ _ _ ?_
      refine ⟨by omega, fun q => ?_, fun q => absurd rfl q⟩
      exact ⟨Or.inl rfl, Or.inr ⟨fun z => h2 z.2.1, rfl⟩, rfl⟩
  · change G _ _ _ (wFp img w ks ss n who ties su cs sz tl)
    refine hG.1 [] 80 _ _ _ _ ?_
    refine ⟨by omega, fun q => ?_, fun q => absurd rfl q⟩
    exact ⟨Or.inl rfl, Or.inr ⟨fun z => h1 z.1, rfl⟩, rfl⟩
theorem wFp_app : wFp img w ks ss n who ties su cs sz [] ++ tl = wFp img w ks ss n who ties su cs sz tl := by
  unfold wFp
  simp only [List.append_nil, List.cons_append, List.append_assoc]
theorem fa_pick : (List.range' 0 46).map (z_g (wFp img w ks ss n who ties su cs sz tl)) = (wFp img w ks ss n who ties su cs sz []).map (fun c => some (z_ren (List.range' 0 46) c)) := by
  have h := z_emb (fun c => c) tl (wFp img w ks ss n who ties su cs sz []) []
  rw [List.map_id', List.nil_append, wFp_app] at h
  have e : (fun c => some (z_ren (List.range' 0 46) c)) = (fun c : zC => some c) := funext fun c => by rw [z_ren_id 45]
  rw [e]
  exact h
theorem fa_back : z_sct (List.range' 0 46) (List.range' 0 46) (wFp img w ks ss n who ties su cs sz []) (wFp img w ks ss n who ties su cs sz tl) = wFp img w ks ss n who ties su cs sz tl := by
  have h := z_embb (List.range' 0 46) tl (wFp img w ks ss n who ties su cs sz []) (wFp img w ks ss n who ties su cs sz []) [] rfl
  have e : (wFp img w ks ss n who ties su cs sz []).map (z_ren (List.range' 0 46)) = wFp img w ks ss n who ties su cs sz [] := by
    rw [List.map_congr_left (fun c _ => z_ren_id 45 c), List.map_id']
  rw [e, List.nil_append, wFp_app] at h
  exact h
noncomputable def zPr (w ss : Int → Int) (n : Nat) (who ties : Int) (a b c : Nat) : Nat := (zHp (zFp w ss n who ties a b c) (2520 * zWeiN w 21) 441 0 0 (-1)).1
theorem c_Fp_league {a b c x : Int} (ha : -2147483648 ≤ a ∧ a ≤ 2147483647) (hb : -2147483648 ≤ b ∧ b ≤ 2147483647) (hc : -2147483648 ≤ c ∧ c ≤ 2147483647) (hx : -2147483648 ≤ x ∧ x ≤ 2147483647) (hL : zOkL n who ties) (hS : zOkS ss n) (hW : zOkW w) :
    zMet m_Fp_league [.inr (.inr 0), .inl a, .inl b, .inl c, .inl x] (wFp img w ks ss n who ties su cs sz tl) (fun v wd => v = some (.inl (if z3 n a b c ∧ (0 ≤ x ∧ x ≤ 1) then (if zSumN w 21 = 0 then -2 else if x = 0 then (zPr w ss n who ties a.toNat b.toNat c.toNat : Int) / 21 else (zPr w ss n who ties a.toNat b.toNat c.toNat : Int) % 21) else -1)) ∧ wd = wFp img w ks ss n who ties su cs sz tl) := by
  have hn := hL.1
  have hsum := zSumN_in hW
  have hwei := zWei21 hW
  refine zMet.of (own := RX6) rfl (by decide +kernel) tk_Fp_league fok_Fp cok_Fp (Nat.le_of_ble_eq_true rfl) (fun G hG => ?_)
  refine hG.1 [] 80 _ _ _ _ ?_
  refine hG.2.1 (c_Fp_areThree (img := img) (w := w) (ks := ks) (ss := ss) (n := n) (who := who) (ties := ties) (su := su) (cs := cs) (sz := sz) (tl := []) ha hb hc hn) yv_Fp_areThree lk_Fp_182 (by decide +kernel) rfl rfl (List.range' 0 46) (by decide +kernel) fa_pick rfl rfl (Nat.le_of_ble_eq_true rfl) (fun v w2 hv hl2 => ?_)
  rw [hv.2, fa_back]
  have hv := hv.1
  rcases hv with ⟨h1, rfl⟩ | ⟨h1, rfl⟩
  · refine hG.1 [23] 80 _ _ _ _ ?_
    refine ⟨by omega, fun q => absurd q (by omega), fun q => ?_⟩
    refine ⟨by omega, fun q2 => ?_, fun q2 => ?_⟩
    · exact ⟨trivial, by rw [if_neg (fun z => by have := z.2; omega)], rfl⟩
    · refine ⟨by omega, fun q3 => ?_, fun q3 => ?_⟩
      · refine hG.1 [] 80 _ _ _ _ ?_
        refine hG.2.1 (c_Su_together (w := w)) yv_Su_together lk_Fp_88 (by decide +kernel) rfl rfl [2, 3] (by decide +kernel) rfl rfl rfl (Nat.le_of_ble_eq_true rfl) (fun v w2 hv hl2 => ?_)
        obtain ⟨rfl, rfl⟩ := hv
        change G _ _ _ (wFp img w ks ss n who ties su cs sz tl)
        refine hG.1 [] 80 _ _ _ _ ?_
        refine ⟨by omega, fun h4 => ?_, fun h4 => ?_⟩
        · obtain ⟨i, rfl⟩ := z_nat h1.1.1
          obtain ⟨j, rfl⟩ := z_nat h1.2.1.1
          obtain ⟨k, rfl⟩ := z_nat h1.2.2.1.1
          have hij : i ≠ j := fun e => h1.2.2.2.1 (by rw [e])
          refine hG.2.1 (c_Ta_wholeBurden (w := w) (ks := ks) (ss := ss) (n := n) (who := who) (ties := ties) hW) yv_Ta_wholeBurden lk_Fp_186 (by decide +kernel) rfl rfl [1, 2, 3, 4, 5, 6] (by decide +kernel) rfl rfl rfl (Nat.le_of_ble_eq_true rfl) (fun v w2 hv hl2 => ?_)
          obtain ⟨rfl, rfl⟩ := hv
          change G _ _ _ (wFp img w ks ss n who ties su cs sz tl)
          refine hG.1 [] 80 _ _ _ _ ?_
          refine hG.2.1 (c_Ta_hardestPair (w := w) (ks := ks) (ss := ss) (n := n) (who := who) (ties := ties) (a := i) (b := j) (c := k) (en := 2520 * zWeiN w 21) (by omega) (by omega) (by omega) hL hS hW hij (by omega)) yv_Ta_hardestPair lk_Fp_190 (by decide +kernel) rfl rfl [1, 2, 3, 4, 5, 6] (by decide +kernel) rfl rfl rfl (Nat.le_of_ble_eq_true rfl) (fun v w2 hv hl2 => ?_)
          obtain ⟨rfl, rfl⟩ := hv
          change G _ _ _ (wFp img w ks ss n who ties su cs sz tl)
          have hlt : (zHp (zFp w ss n who ties i j k) (2520 * zWeiN w 21) 441 0 0 (-1)).1 < 441 := zHp_lt 441 0 0 (-1) rfl (by omega)
          refine hG.1 [] 80 _ _ _ _ ?_
          refine ⟨by omega, fun h5 => ?_, fun h5 => ?_⟩
          · refine ⟨by omega, trivial, ?_, rfl⟩
            rw [if_pos ⟨h1, by omega⟩, if_neg h4, if_neg h5, Int.toNat_natCast, Int.toNat_natCast, Int.toNat_natCast] <;> rfl
          · refine ⟨by omega, trivial, ?_, rfl⟩
            rw [if_pos ⟨h1, by omega⟩, if_neg h4, if_pos h5, Int.toNat_natCast, Int.toNat_natCast, Int.toNat_natCast] <;> rfl
        · exact ⟨trivial, by rw [if_pos ⟨h1, by omega⟩, if_pos h4], rfl⟩
      · exact ⟨trivial, by rw [if_neg (fun z => by have := z.2; omega)], rfl⟩
  · refine hG.1 [23] 80 _ _ _ _ ?_
    refine ⟨by omega, fun q => ?_, fun q => absurd rfl q⟩
    exact ⟨trivial, by rw [if_neg (fun z => h1 z.1)], rfl⟩
theorem c_Fp_shun {a b c : Int} (ha : -2147483648 ≤ a ∧ a ≤ 2147483647) (hb : -2147483648 ≤ b ∧ b ≤ 2147483647) (hc : -2147483648 ≤ c ∧ c ≤ 2147483647) (hL : zOkL n who ties) (hS : zOkS ss n) (hW : zOkW w) :
    zMet m_Fp_shun [.inr (.inr 0), .inl a, .inl b, .inl c] (wFp img w ks ss n who ties su cs sz tl) (fun v wd => v = some (.inl (if z3 n a b c then (if zSumN w 21 = 0 then -2 else ((zSf w ss n who ties a.toNat b.toNat c.toNat 21).1 : Int)) else -1)) ∧ wd = wFp img w ks ss n who ties su cs sz tl) := by
  have hn := hL.1
  have hsum := zSumN_in hW
  refine zMet.of (own := RX6) rfl (by decide +kernel) tk_Fp_shun fok_Fp cok_Fp (Nat.le_of_ble_eq_true rfl) (fun G hG => ?_)
  refine hG.1 [] 80 _ _ _ _ ?_
  refine hG.2.1 (c_Fp_areThree (img := img) (w := w) (ks := ks) (ss := ss) (n := n) (who := who) (ties := ties) (su := su) (cs := cs) (sz := sz) (tl := []) ha hb hc hn) yv_Fp_areThree lk_Fp_182 (by decide +kernel) rfl rfl (List.range' 0 46) (by decide +kernel) fa_pick rfl rfl (Nat.le_of_ble_eq_true rfl) (fun v w2 hv hl2 => ?_)
  rw [hv.2, fa_back]
  have hv := hv.1
  rcases hv with ⟨h1, rfl⟩ | ⟨h1, rfl⟩
  · refine hG.1 [] 80 _ _ _ _ ?_
    refine ⟨by omega, fun q => ?_, fun q => absurd q (by omega)⟩
    refine hG.2.1 (c_Su_together (w := w)) yv_Su_together lk_Fp_88 (by decide +kernel) rfl rfl [2, 3] (by decide +kernel) rfl rfl rfl (Nat.le_of_ble_eq_true rfl) (fun v w2 hv hl2 => ?_)
    obtain ⟨rfl, rfl⟩ := hv
    change G _ _ _ (wFp img w ks ss n who ties su cs sz tl)
    refine hG.1 [] 80 _ _ _ _ ?_
    refine ⟨by omega, fun h4 => ?_, fun h4 => ?_⟩
    · obtain ⟨i, rfl⟩ := z_nat h1.1.1
      obtain ⟨j, rfl⟩ := z_nat h1.2.1.1
      obtain ⟨k, rfl⟩ := z_nat h1.2.2.1.1
      have hij : i ≠ j := fun e => h1.2.2.2.1 (by rw [e])
      refine hG.2.1 (c_Ta_safestSlip (w := w) (ks := ks) (ss := ss) (n := n) (who := who) (ties := ties) (a := i) (b := j) (c := k) (by omega) (by omega) (by omega) hL hS hW hij) yv_Ta_safestSlip lk_Fp_194 (by decide +kernel) rfl rfl [1, 2, 3, 4, 5, 6] (by decide +kernel) rfl rfl rfl (Nat.le_of_ble_eq_true rfl) (fun v w2 hv hl2 => ?_)
      obtain ⟨rfl, rfl⟩ := hv
      change G _ _ _ (wFp img w ks ss n who ties su cs sz tl)
      refine hG.1 [] 80 _ _ _ _ ?_
      refine ⟨trivial, ?_, rfl⟩
      rw [if_pos h1, if_neg h4, Int.toNat_natCast, Int.toNat_natCast, Int.toNat_natCast] <;> rfl
    · exact ⟨trivial, by rw [if_pos h1, if_pos h4], rfl⟩
  · refine hG.1 [] 80 _ _ _ _ ?_
    refine ⟨by omega, fun q => absurd rfl q, fun q => ?_⟩
    exact ⟨trivial, by rw [if_neg h1], rfl⟩
theorem c_Fp_host {x g : Int} (hx : -2147483648 ≤ x ∧ x ≤ 2147483647) (hg : -2147483648 ≤ g ∧ g ≤ 2147483647) (hL : zOkL n who ties) (hS : zOkS ss n) :
    zMet m_Fp_host [.inr (.inr 0), .inl x, .inl g] (wFp img w ks ss n who ties su cs sz tl) (fun v wd => v = some (.inl (if (0 < x ∧ x < 2097152) ∧ (0 ≤ g ∧ g < n) then (zHs x (zDue ss n who ties g.toNat) 21).1 else -1)) ∧ wd = wFp img w ks ss n who ties su cs sz tl) := by
  obtain ⟨hn, hwho, hties⟩ := hL
  refine zMet.of (own := RX6) rfl (by decide +kernel) tk_Fp_host fok_Fp cok_Fp (Nat.le_of_ble_eq_true rfl) (fun G hG => ?_)
  refine hG.1 [] 80 _ _ _ _ ?_
  refine hG.2.2.1 (c_Fp_isSetOfSums hx) ys_Fp_isSetOfSums (Or.inl lk_Fp_198) (by decide +kernel) rfl [] (by decide +kernel) rfl rfl rfl (Nat.le_of_ble_eq_true rfl) (fun v w2 hv hl2 => ?_)
  obtain ⟨⟨h1, rfl⟩ | ⟨h1, rfl⟩, rfl⟩ := hv
  · change G _ _ _ (wFp img w ks ss n who ties su cs sz tl)
    refine hG.1 [] 80 _ _ _ _ ?_
    refine ⟨by omega, fun q => absurd q (by omega), fun q => ?_⟩
    refine hG.2.1 (c_Co_has hg hn) yv_Co_has lk_Fp_76 (by decide +kernel) rfl rfl [4, 5, 6] (by decide +kernel) rfl rfl rfl (Nat.le_of_ble_eq_true rfl) (fun v w2 hv hl2 => ?_)
    obtain ⟨⟨h2, rfl⟩ | ⟨h2, rfl⟩, rfl⟩ := hv
    · change G _ _ _ (wFp img w ks ss n who ties su cs sz tl)
      obtain ⟨k, rfl⟩ := z_nat h2.1
      have hdue : ∀ j : Nat, j < 21 → 0 ≤ zDue ss n who ties k j ∧ zDue ss n who ties k j ≤ 50400 := fun j hj => by
        have hsh := zSh_in ss n who ties j k (zFree ss n who)
        have hd1 : zDue ss n who ties k j ≤ 20 * 2520 := Int.mul_le_mul (by omega) hsh.2 hsh.1 (by omega)
        exact ⟨Int.mul_nonneg (by omega) hsh.1, by omega⟩
      have hst : ∀ i : Nat, i ≤ 21 → (-1 ≤ (zHs x (zDue ss n who ties k) i).1 ∧ (zHs x (zDue ss n who ties k) i).1 ≤ 21) ∧ (-1 ≤ (zHs x (zDue ss n who ties k) i).2 ∧ (zHs x (zDue ss n who ties k) i).2 ≤ 50400) := by
        intro i
        induction i with
        | zero => intro _; show (-1 ≤ (-1 : Int) ∧ (-1 : Int) ≤ 21) ∧ (-1 ≤ (-1 : Int) ∧ (-1 : Int) ≤ 50400); omega
        | succ i ih =>
          intro hi
          have h3 := ih (by omega)
          have h4 := hdue i (by omega)
          unfold zHs; split
          · show (-1 ≤ (i : Int) ∧ (i : Int) ≤ 21) ∧ (-1 ≤ zDue ss n who ties k i ∧ zDue ss n who ties k i ≤ 50400); omega
          · omega
      refine hG.1 [31] 80 _ _ _ _ ?_
      refine ⟨by omega, fun q2 => ?_, fun q2 => absurd q2 (by omega)⟩
      refine z_up0 (n := 21) (P := fun i : Nat => G 31 [(0, .inr (.inr 0)), (1, .inl x), (2, .inl (k : Int)), (3, .inl (zHs x (zDue ss n who ties k) i).1), (4, .inl (zHs x (zDue ss n who ties k) i).2), (5, .inl (i : Int))] [] (wFp img w ks ss n who ties su cs sz tl)) ?_ (fun i hi ih => ?_)
      · refine hG.1 [] 80 _ _ _ _ ?_
        refine ⟨by omega, fun q3 => ?_, fun q3 => absurd q3 (by omega)⟩
        exact ⟨trivial, by rw [if_pos ⟨h1, h2⟩, Int.toNat_natCast], rfl⟩
      · have e : zHs x (zDue ss n who ties k) (i + 1) = if zBit x i ∧ (zHs x (zDue ss n who ties k) i).2 < zDue ss n who ties k i then ((i : Int), zDue ss n who ties k i) else zHs x (zDue ss n who ties k) i := rfl
        have hsti := hst i (by omega)
        have hdi := hdue i hi
        have hand := z_and_in (x / 2 ^ (i : Int).toNat) 1
        have back : (i : Int) * zSh ss n who ties i k (zFree ss n who) = zDue ss n who ties k i := rfl
        refine hG.1 [31] 80 _ _ _ _ ?_
        refine ⟨by omega, fun q3 => absurd q3 (by omega), fun q3 => ?_⟩
        refine ⟨by omega, by omega, fun q4 => ?_, fun q4 => ?_⟩
        · rw [e, if_neg (fun z => q4 z.1)] at ih
          exact ih
        · refine hG.2.1 (c_Co_due (g := k) (sum := (i : Int)) (by omega) hn hwho hties hS (by omega)) yv_Co_due lk_Fp_155 (by decide +kernel) rfl rfl [4, 5, 6] (by decide +kernel) rfl rfl rfl (Nat.le_of_ble_eq_true rfl) (fun v w2 hv hl2 => ?_)
          obtain ⟨rfl, rfl⟩ := hv
          change G _ _ _ (wFp img w ks ss n who ties su cs sz tl)
          rw [back]
          refine hG.1 [31] 80 _ _ _ _ ?_
          refine ⟨by omega, fun q5 => ?_, fun q5 => ?_⟩
          · rw [e, if_neg (fun z => by omega)] at ih
            exact ih
          · refine hG.2.1 (c_Co_due (g := k) (sum := (i : Int)) (by omega) hn hwho hties hS (by omega)) yv_Co_due lk_Fp_155 (by decide +kernel) rfl rfl [4, 5, 6] (by decide +kernel) rfl rfl rfl (Nat.le_of_ble_eq_true rfl) (fun v w2 hv hl2 => ?_)
            obtain ⟨rfl, rfl⟩ := hv
            change G _ _ _ (wFp img w ks ss n who ties su cs sz tl)
            rw [back]
            rw [e, if_pos ⟨q4, q5⟩] at ih
            refine hG.1 [31] 80 _ _ _ _ ?_
            exact ih
    · change G _ _ _ (wFp img w ks ss n who ties su cs sz tl)
      refine hG.1 [] 80 _ _ _ _ ?_
      refine ⟨by omega, fun q2 => absurd rfl q2, fun q2 => ?_⟩
      exact ⟨trivial, by rw [if_neg (fun z => h2 z.2)], rfl⟩
  · change G _ _ _ (wFp img w ks ss n who ties su cs sz tl)
    refine hG.1 [] 80 _ _ _ _ ?_
    refine ⟨by omega, fun q => ?_, fun q => absurd rfl q⟩
    exact ⟨trivial, by rw [if_neg (fun z => h1 z.1)], rfl⟩
theorem c_Fp_choice {x : Int} (hx : -2147483648 ≤ x ∧ x ≤ 2147483647) (hL : zOkL n who ties) (hS : zOkS ss n) :
    zMet m_Fp_choice [.inr (.inr 0), .inl x] (wFp img w ks ss n who ties su cs sz tl) (fun v wd => v = some (.inl (if 0 < x ∧ x < 2097152 then (zPop 9 (zChM x ss n who ties 21) : Int) else -1)) ∧ wd = wFp img w ks ss n who ties su cs sz tl) := by
  obtain ⟨hn, hwho, hties⟩ := hL
  refine zMet.of (own := RX6) rfl (by decide +kernel) tk_Fp_choice fok_Fp cok_Fp (Nat.le_of_ble_eq_true rfl) (fun G hG => ?_)
  refine hG.1 [] 80 _ _ _ _ ?_
  refine hG.2.2.1 (c_Fp_isSetOfSums hx) ys_Fp_isSetOfSums (Or.inl lk_Fp_198) (by decide +kernel) rfl [] (by decide +kernel) rfl rfl rfl (Nat.le_of_ble_eq_true rfl) (fun v w2 hv hl2 => ?_)
  obtain ⟨⟨h1, rfl⟩ | ⟨h1, rfl⟩, rfl⟩ := hv
  · change G _ _ _ (wFp img w ks ss n who ties su cs sz tl)
    refine hG.1 [13] 80 _ _ _ _ ?_
    refine ⟨by omega, fun q => ?_, fun q => absurd q (by omega)⟩
    have e1 : zChM x ss n who ties 1 = 0 := by
      exact if_neg (fun z => Nat.not_succ_le_zero 0 z.1)
    suffices L : ∀ i, i ≤ 21 → (1 ≤ i → G 13 [(0, .inr (.inr 0)), (1, .inl x), (2, .inl (zChM x ss n who ties i : Int)), (3, .inl (i : Int))] [] (wFp img w ks ss n who ties su cs sz tl)) by
      have := L 1 (by omega) (by omega)
      rw [e1] at this; exact this
    refine z_up (fun hb => ?_) (fun i hi ih hb => ?_)
    · have hlt := zChM_lt (x := x) (ss := ss) (who := who) (ties := ties) hn 21
      refine hG.1 [] 80 _ _ _ _ ?_
      refine ⟨by omega, fun q3 => ?_, fun q3 => absurd q3 (by omega)⟩
      refine hG.2.2.1 (c_Ja_bitCount hlt) ys_Ja_bitCount (Or.inl lk_Fp_201) (by decide +kernel) rfl [] (by decide +kernel) rfl rfl rfl (Nat.le_of_ble_eq_true rfl) (fun v w2 hv hl2 => ?_)
      obtain ⟨rfl, rfl⟩ := hv
      change G _ _ _ (wFp img w ks ss n who ties su cs sz tl)
      refine hG.1 [] 80 _ _ _ _ ?_
      exact ⟨trivial, by rw [if_pos h1] <;> rfl, rfl⟩
    · have e : zChM x ss n who ties (i + 1) = if 1 ≤ i ∧ zBit x i then zChM x ss n who ties i ||| zMaskN (zPay ss n who ties i) n else zChM x ss n who ties i := rfl
      have hand := z_and_in (x / 2 ^ (i : Int).toNat) 1
      have hlt := zChM_lt (x := x) (ss := ss) (who := who) (ties := ties) hn i
      have hm9 := zMask9 (p := zPay ss n who ties i) hn
      have ih := ih (by omega)
      refine hG.1 [13] 80 _ _ _ _ ?_
      refine ⟨by omega, fun q3 => absurd q3 (by omega), fun q3 => ?_⟩
      refine ⟨by omega, by omega, fun q4 => ?_, fun q4 => ?_⟩
      · rw [e, if_neg (fun z => q4 z.2)] at ih
        exact ih
      · refine hG.2.1 (c_Co_payers (sum := (i : Int)) hn hwho hties hS (by omega)) yv_Co_payers lk_Fp_149 (by decide +kernel) rfl rfl [4, 5, 6] (by decide +kernel) rfl rfl rfl (Nat.le_of_ble_eq_true rfl) (fun v w2 hv hl2 => ?_)
        obtain ⟨rfl, rfl⟩ := hv
        change G _ _ _ (wFp img w ks ss n who ties su cs sz tl)
        rw [e, if_pos ⟨hb, q4⟩, ← z_orN (by omega) (by omega)] at ih
        refine hG.1 [13] 80 _ _ _ _ ?_
        exact ih
  · change G _ _ _ (wFp img w ks ss n who ties su cs sz tl)
    refine hG.1 [] 80 _ _ _ _ ?_
    refine ⟨by omega, fun q => absurd rfl q, fun q => ?_⟩
    exact ⟨trivial, by rw [if_neg h1], rfl⟩
end Fo
end
section
/-! FARTHESTPAYS: nights of now; bytes -/
section Fq
variable {img : Int} {w ks ss : Int → Int} {n : Nat} {who ties : Int} {su : Int → Int} {cs : Nat → zCD} {sz : Nat} {tl : zW}
theorem c_Fp_knew (hz : sz ≤ 12) (hc : ∀ i, i < sz → zOkC (cs i)) (hs : ∀ i : Nat, i < sz → 0 ≤ su i ∧ su i ≤ 20) :
    zMet m_Fp_knew [.inr (.inr 0)] (wFp img w ks ss n who ties su cs sz tl) (fun v wd => v = some (.inl (zMaskN (zKnewB su cs sz) 9 : Int)) ∧ wd = wFp img w ks ss n who ties su cs sz tl) := by
  refine zMet.of (own := RX6) rfl (by decide +kernel) tk_Fp_knew fok_Fp cok_Fp (Nat.le_of_ble_eq_true rfl) (fun G hG => ?_)
  refine hG.1 [] 80 _ _ _ _ ?_
  refine hG.2.1 (c_Ni_knowers hz hc hs) yv_Ni_knowers lk_Fp_209 (by decide +kernel) rfl rfl (List.range' 7 39) (by decide +kernel) fn_pick rfl rfl (Nat.le_of_ble_eq_true rfl) (fun v w2 hv hl2 => ?_)
  obtain ⟨rfl, rfl⟩ := hv
  rw [fn_back]
  refine hG.1 [] 80 _ _ _ _ ?_
  exact ⟨trivial, rfl, rfl⟩
theorem c_Fp_forget :
    zMet m_Fp_forget [.inr (.inr 0)] (wFp img w ks ss n who ties su cs sz tl) (fun v wd => v = some (.inl (sz : Int)) ∧ wd = wFp img w ks ss n who ties su cs 0 tl) := by
  refine zMet.of (own := RX6) rfl (by decide +kernel) tk_Fp_forget fok_Fp cok_Fp (Nat.le_of_ble_eq_true rfl) (fun G hG => ?_)
  refine hG.1 [] 80 _ _ _ _ ?_
  refine hG.2.1 (c_Ni_size (su := su) (cs := cs) (sz := sz)) yv_Ni_size lk_Fp_148 (by decide +kernel) rfl rfl (List.range' 7 39) (by decide +kernel) fn_pick rfl rfl (Nat.le_of_ble_eq_true rfl) (fun v w2 hv hl2 => ?_)
  obtain ⟨rfl, rfl⟩ := hv
  rw [fn_back]
  refine hG.1 [] 80 _ _ _ _ ?_
  refine hG.2.1 (c_Ni_clear (su := su) (cs := cs) (sz := sz)) yv_Ni_clear lk_Fp_140 (by decide +kernel) rfl rfl (List.range' 7 39) (by decide +kernel) fn_pick rfl rfl (Nat.le_of_ble_eq_true rfl) (fun v w2 hv hl2 => ?_)
  obtain ⟨rfl, rfl⟩ := hv
  rw [fn_back]
  refine hG.1 [] 80 _ _ _ _ ?_
  exact ⟨trivial, rfl, rfl⟩
theorem c_Fp_leagues {g x : Int} (hg : -2147483648 ≤ g ∧ g ≤ 2147483647) (hx : -2147483648 ≤ x ∧ x ≤ 2147483647) (hn : n ≤ 9) (hz : sz ≤ 12) (hc : ∀ i, i < sz → zOkC (cs i)) (hs : ∀ i : Nat, i < sz → 0 ≤ su i ∧ su i ≤ 20) :
    zMet m_Fp_leagues [.inr (.inr 0), .inl g, .inl x] (wFp img w ks ss n who ties su cs sz tl) (fun v wd =>
      ((((0 ≤ g ∧ g < n) ∧ x = 0) ∧ ((zPaid su cs sz g.toNat ∧ v = some (.inl (zPrA (zBtw cs sz g.toNat) 9 : Int))) ∨ (¬ zPaid su cs sz g.toNat ∧ v = some (.inl 0)))) ∨
       (((0 ≤ g ∧ g < n) ∧ x = 1) ∧ ((zPaid su cs sz g.toNat ∧ ∃ r, v = some (.inl (if r < 0 then -4 else r)) ∧ zFirst (zBtw cs sz g.toNat) 9 r) ∨ (¬ zPaid su cs sz g.toNat ∧ v = some (.inl (-4))))) ∨
       (¬ ((0 ≤ g ∧ g < n) ∧ (0 ≤ x ∧ x ≤ 1)) ∧ v = some (.inl (-1)))) ∧ wd = wFp img w ks ss n who ties su cs sz tl) := by
  refine zMet.of (own := RX6) rfl (by decide +kernel) tk_Fp_leagues fok_Fp cok_Fp (Nat.le_of_ble_eq_true rfl) (fun G hG => ?_)
  refine hG.1 [] 80 _ _ _ _ ?_
  refine hG.2.1 (c_Co_has hg hn) yv_Co_has lk_Fp_76 (by decide +kernel) rfl rfl [4, 5, 6] (by decide +kernel) rfl rfl rfl (Nat.le_of_ble_eq_true rfl) (fun v w2 hv hl2 => ?_)
  obtain ⟨⟨h1, rfl⟩ | ⟨h1, rfl⟩, rfl⟩ := hv
  · change G _ _ _ (wFp img w ks ss n who ties su cs sz tl)
    refine hG.1 [25] 80 _ _ _ _ ?_
    refine ⟨by omega, fun q => absurd q (by omega), fun q => ?_⟩
    refine ⟨by omega, fun q2 => ?_, fun q2 => ?_⟩
    · exact ⟨trivial, Or.inr (Or.inr ⟨fun z => by have := z.2; omega, rfl⟩), rfl⟩
    · refine ⟨by omega, fun q3 => ?_, fun q3 => ?_⟩
      · obtain ⟨k, rfl⟩ := z_nat h1.1
        rw [Int.toNat_natCast]
        refine hG.1 [] 80 _ _ _ _ ?_
        refine ⟨by omega, fun q4 => ?_, fun q4 => ?_⟩
        · refine hG.2.1 (c_Ni_firstPairAgainst (su := su) (cs := cs) (sz := sz) (g := k) (by omega) hz hc hs) yv_Ni_firstPairAgainst lk_Fp_215 (by decide +kernel) rfl rfl (List.range' 7 39) (by decide +kernel) fn_pick rfl rfl (Nat.le_of_ble_eq_true rfl) (fun v w2 hv hl2 => ?_)
          rw [hv.2, fn_back]
          rcases hv.1 with ⟨h2, r, rfl, h3⟩ | ⟨h2, rfl⟩
          · have hr : -1 ≤ r ∧ r ≤ 100 := by
              rcases h3 with ⟨rfl, _⟩ | ⟨a, b, hab, hb9, _, rfl, _⟩ <;> omega
            refine hG.1 [] 80 _ _ _ _ ?_
            refine ⟨by omega, fun q5 => ?_, fun q5 => ?_⟩
            · exact ⟨trivial, Or.inr (Or.inl ⟨⟨h1, by omega⟩, Or.inl ⟨h2, r, by rw [if_neg (by omega)], h3⟩⟩), rfl⟩
            · exact ⟨trivial, Or.inr (Or.inl ⟨⟨h1, by omega⟩, Or.inl ⟨h2, r, by rw [if_pos (by omega)], h3⟩⟩), rfl⟩
          · refine hG.1 [] 80 _ _ _ _ ?_
            refine ⟨by omega, fun q5 => absurd q5 (by omega), fun q5 => ?_⟩
            exact ⟨trivial, Or.inr (Or.inl ⟨⟨h1, by omega⟩, Or.inr ⟨h2, rfl⟩⟩), rfl⟩
        · refine hG.2.1 (c_Ni_pairsAgainst (su := su) (cs := cs) (sz := sz) (g := k) (by omega) hz hc hs) yv_Ni_pairsAgainst lk_Fp_212 (by decide +kernel) rfl rfl (List.range' 7 39) (by decide +kernel) fn_pick rfl rfl (Nat.le_of_ble_eq_true rfl) (fun v w2 hv hl2 => ?_)
          rw [hv.2, fn_back]
          rcases hv.1 with ⟨h2, rfl⟩ | ⟨h2, rfl⟩
          · refine hG.1 [] 80 _ _ _ _ ?_
            exact ⟨trivial, Or.inl ⟨⟨h1, q4⟩, Or.inl ⟨h2, rfl⟩⟩, rfl⟩
          · refine hG.1 [] 80 _ _ _ _ ?_
            exact ⟨trivial, Or.inl ⟨⟨h1, q4⟩, Or.inr ⟨h2, rfl⟩⟩, rfl⟩
      · exact ⟨trivial, Or.inr (Or.inr ⟨fun z => by have := z.2; omega, rfl⟩), rfl⟩
  · change G _ _ _ (wFp img w ks ss n who ties su cs sz tl)
    refine hG.1 [25] 80 _ _ _ _ ?_
    refine ⟨by omega, fun q => ?_, fun q => absurd rfl q⟩
    exact ⟨trivial, Or.inr (Or.inr ⟨fun z => h1 z.1, rfl⟩), rfl⟩
end Fq
def zByte (x : Int) (i : Nat) : Int := z_and (z_lushr x (8 * (i : Int))) 255
theorem c_Fp_byteOf {x : Int} {i : Nat} (hi : i < 8) : zMet m_Fp_byteOf [.inr (.inl x), .inl i] [] (fun v w => v = some (.inl (zByte x i)) ∧ w = []) := by
  refine zMet.of (own := RX6) rfl (by decide +kernel) tk_Fp_byteOf fok_Fp cok_Fp (Nat.le_of_ble_eq_true rfl) (fun G hG => ?_)
  refine hG.1 [] 80 _ _ _ _ ?_
  refine Or.inl ?_
  exact ⟨trivial, rfl, rfl⟩
theorem c_Fp_isPrintable {x : Int} {k : Nat} (hk : k ≤ 8) : zMet m_Fp_isPrintable [.inr (.inl x), .inl k] [] (fun v w => z_bool (∀ i : Nat, i < k → 32 ≤ zByte x i ∧ zByte x i ≤ 126) v ∧ w = []) := by
  refine zMet.of (own := RX6) rfl (by decide +kernel) tk_Fp_isPrintable fok_Fp cok_Fp (Nat.le_of_ble_eq_true rfl) (fun G hG => ?_)
  refine hG.1 [2] 80 _ _ _ _ ?_
  suffices L : ∀ i, i ≤ k → ((∀ o : Nat, o < i → 32 ≤ zByte x o ∧ zByte x o ≤ 126) → G 2 [(0, .inr (.inl x)), (2, .inl (k : Int)), (3, .inl (i : Int))] [] []) from L 0 (by omega) (fun o h => by omega)
  refine z_up (fun hb => ?_) (fun i hi ih hb => ?_)
  · refine hG.1 [] 80 _ _ _ _ ?_
    refine ⟨by omega, fun h1 => ?_, fun h1 => absurd h1 (by omega)⟩
    exact ⟨Or.inr rfl, Or.inl ⟨hb, rfl⟩, rfl⟩
  · have hr := z_and_in (z_lushr x (8 * (i : Int))) 255
    have back : z_and (z_lushr x (8 * (i : Int))) 255 = zByte x i := rfl
    rw [back] at hr
    have out : ¬ (32 ≤ zByte x i ∧ zByte x i ≤ 126) → z_bool (∀ i : Nat, i < k → 32 ≤ zByte x i ∧ zByte x i ≤ 126) (some (.inl 0)) := fun h => Or.inr ⟨fun z => h (z i hi), rfl⟩
    refine hG.1 [] 80 _ _ _ _ ?_
    refine ⟨by omega, fun h1 => absurd h1 (by omega), fun h1 => ?_⟩
    refine hG.2.2.1 (c_Fp_byteOf (x := x) (i := i) (by omega)) ys_Fp_byteOf (Or.inl lk_Fp_112) (by decide +kernel) rfl [] (by decide +kernel) rfl rfl rfl (Nat.le_of_ble_eq_true rfl) (fun v w2 hv hl2 => ?_)
    obtain ⟨rfl, rfl⟩ := hv
    refine hG.1 [2] 80 _ _ _ _ ?_
    refine ⟨by omega, fun h2 => ?_, fun h2 => ?_⟩
    · exact ⟨Or.inl rfl, out (by omega), rfl⟩
    · refine ⟨by omega, fun h3 => ?_, fun h3 => ?_⟩
      · exact hG.2.2.2.2.1 (fun q hq => List.mem_append_left _ hq) (ih (fun o ho => by
          rcases Nat.lt_succ_iff_lt_or_eq.mp ho with h | rfl
          · exact hb o h
          · exact ⟨h2, h3⟩))
      · exact ⟨Or.inl rfl, out (by omega), rfl⟩
end
section
/-! CELLS ALIKE: nights and tables at other places; Table.copyFrom; night, image, restore -/
def z_rfv (φ : Nat → Nat) : zV → zV
  | .inl x => .inl x
  | .inr (.inl x) => .inr (.inl x)
  | .inr (.inr k) => .inr (.inr (φ k))
def z_rf (φ : Nat → Nat) : zC → zC
  | .inl o => .inl (o.1, o.2.map (z_rfv φ))
  | .inr (t, (n, .inl f)) => .inr (t, (n, .inl f))
  | .inr (t, (n, .inr (.inl f))) => .inr (t, (n, .inr (.inl f)))
  | .inr (t, (n, .inr (.inr f))) => .inr (t, (n, .inr (.inr (fun j => φ (f j)))))
theorem z_rfv_eq (π : List Nat) (v : zV) : z_rv π v = z_rfv (z_pl π) v := by
  rcases v with x | x | x <;> rfl
theorem z_rf_eq (π : List Nat) (c : zC) : z_ren π c = z_rf (z_pl π) c := by
  rcases c with ⟨ci, fs⟩ | ⟨t, n, f | f | f⟩
  · show Sum.inl (ci, fs.map (z_rv π)) = Sum.inl (ci, fs.map (z_rfv (z_pl π)))
    rw [List.map_congr_left (fun v _ => z_rfv_eq π v)]
  · rfl
  · rfl
  · rfl
theorem z_rf_rf (φ ψ : Nat → Nat) (c : zC) : z_rf φ (z_rf ψ c) = z_rf (fun k => φ (ψ k)) c := by
  rcases c with ⟨ci, fs⟩ | ⟨t, n, f | f | f⟩
  · show Sum.inl (ci, (fs.map (z_rfv ψ)).map (z_rfv φ)) = Sum.inl (ci, fs.map (z_rfv fun k => φ (ψ k)))
    rw [List.map_map]
    congr 2
    exact List.map_congr_left fun v _ => by rcases v with x | x | x <;> rfl
  · rfl
  · rfl
  · rfl
theorem z_rf_map (φ ψ : Nat → Nat) (w : zW) : (w.map (z_rf ψ)).map (z_rf φ) = w.map (z_rf (fun k => φ (ψ k))) := by
  rw [List.map_map]
  exact List.map_congr_left fun c _ => z_rf_rf φ ψ c
theorem z_ren_map (π : List Nat) (w : zW) : w.map (z_ren π) = w.map (z_rf (z_pl π)) := List.map_congr_left fun c _ => z_rf_eq π c
theorem zCoC_weq {φ ψ : Nat → Nat} {o : Nat} {c : zCD} (h1 : φ (o + 1) = ψ (o + 1)) (h2 : φ (o + 2) = ψ (o + 2)) : z_weq ((zCoC o c).map (z_rf φ)) ((zCoC o c).map (z_rf ψ)) := by
  have e : (zCoC o c).map (z_rf φ) = (zCoC o c).map (z_rf ψ) := by
    simp only [zCoC, List.map, z_rf, z_rfv, h1, h2]
  rw [e]; exact z_weq_rf _
theorem wn_weq {φ ψ : Nat → Nat} {su : Int → Int} {cs : Nat → zCD} {sz : Nat} (h : ∀ k, k < 39 → φ k = ψ k) : z_weq ((wNi su cs sz).map (z_rf φ)) ((wNi su cs sz).map (z_rf ψ)) := by
  refine ⟨Or.inl ?_, Or.inl rfl, Or.inr ⟨0, 12, fun j => φ (3 + 3 * j.toNat), fun j => ψ (3 + 3 * j.toNat), rfl, rfl, fun j hj => h (3 + 3 * j) (by omega)⟩, ?_⟩
  · simp only [z_rf, z_rfv, List.map, h 1 (by omega), h 2 (by omega)]
  · unfold zCos
    simp only [List.map_append]
    exact z_weq_app (zCoC_weq (h 4 (by omega)) (h 5 (by omega))) (z_weq_app (zCoC_weq (h 7 (by omega)) (h 8 (by omega))) (z_weq_app (zCoC_weq (h 10 (by omega)) (h 11 (by omega))) (z_weq_app (zCoC_weq (h 13 (by omega)) (h 14 (by omega))) (z_weq_app (zCoC_weq (h 16 (by omega)) (h 17 (by omega))) (z_weq_app (zCoC_weq (h 19 (by omega)) (h 20 (by omega))) (z_weq_app (zCoC_weq (h 22 (by omega)) (h 23 (by omega))) (z_weq_app (zCoC_weq (h 25 (by omega)) (h 26 (by omega))) (z_weq_app (zCoC_weq (h 28 (by omega)) (h 29 (by omega))) (z_weq_app (zCoC_weq (h 31 (by omega)) (h 32 (by omega))) (z_weq_app (zCoC_weq (h 34 (by omega)) (h 35 (by omega))) (zCoC_weq (h 37 (by omega)) (h 38 (by omega)))))))))))))
theorem wt_eq {φ ψ : Nat → Nat} {w ks ss : Int → Int} {n : Nat} {who ties : Int} (h : ∀ k, k < 7 → φ k = ψ k) : (wTa w ks ss n who ties).map (z_rf φ) = (wTa w ks ss n who ties).map (z_rf ψ) := by
  simp only [wTa, List.map, z_rf, z_rfv, h 1 (by omega), h 2 (by omega), h 3 (by omega), h 4 (by omega), h 5 (by omega), h 6 (by omega)]
theorem zp_app {a n k : Nat} {X : List Nat} (h : k < n) : z_pl (List.range' a n ++ X) k = a + k := by
  refine z_pl_get ?_
  rw [List.getElem?_append_left (by rw [List.length_range']; exact h), List.getElem?_range' h]
  congr 1; omega
theorem zp_app2 {a n b m k : Nat} (h : k < m) : z_pl (List.range' a n ++ List.range' b m) (n + k) = b + k := by
  refine z_pl_get ?_
  rw [List.getElem?_append_right (by rw [List.length_range']; omega), List.length_range', show n + k - n = k by omega, List.getElem?_range' h]
  congr 1; omega
theorem zp_rg {a n k : Nat} (h : k < n) : z_pl (List.range' a n) k = a + k := by
  have := zp_app (a := a) (X := []) h
  rwa [List.append_nil] at this
theorem z_sct_app (π : List Nat) : ∀ (p1 p2 : List Nat) (c1 c2 ws : zW), p1.length = c1.length → z_sct π (p1 ++ p2) (c1 ++ c2) ws = z_sct π p2 c2 (z_sct π p1 c1 ws)
  | [], p2, [], c2, ws, _ => rfl
  | p :: p1, p2, c :: c1, c2, ws, h => by
    show z_sct π (p1 ++ p2) (c1 ++ c2) (z_s ws p (z_ren π c)) = z_sct π p2 c2 (z_sct π p1 c1 (z_s ws p (z_ren π c)))
    exact z_sct_app π p1 p2 c1 c2 _ (by simpa using h)
section Ng
variable {img : Int} {w ks ss : Int → Int} {n : Nat} {who ties : Int} {su : Int → Int} {cs : Nat → zCD} {sz : Nat} {tl : zW}
abbrev wFpA (img : Int) (w ks ss : Int → Int) (n : Nat) (who ties : Int) (su : Int → Int) (cs : Nat → zCD) (sz : Nat) (tl : zW) : zW := .inl (6, [.inr (.inr 1), .inr (.inr 46), .inl img, .inr (.inr 91), .inr (.inr 93), .inr (.inr 95), .inr (.inr 98)]) :: ((wTa w ks ss n who ties).map (z_ren [1, 2, 3, 4, 5, 6]) ++ ((wNi su cs sz).map (z_ren (List.range' 7 39 ++ [4, 5, 6])) ++ tl))
theorem fA_weq1 : z_weq (wFp img w ks ss n who ties su cs sz tl) (wFpA img w ks ss n who ties su cs sz tl) := by
  refine ⟨Or.inl rfl, z_weq_app (z_weq_rf _) (z_weq_app ?_ (z_weq_rf _))⟩
  rw [z_ren_map, z_ren_map]
  exact wn_weq (fun k hk => by rw [zp_rg hk, zp_app hk])
theorem fA_weq2 : z_weq (wFpA img w ks ss n who ties su cs sz tl) (wFp img w ks ss n who ties su cs sz tl) := by
  refine ⟨Or.inl rfl, z_weq_app (z_weq_rf _) (z_weq_app ?_ (z_weq_rf _))⟩
  rw [z_ren_map, z_ren_map]
  exact wn_weq (fun k hk => by rw [zp_rg hk, zp_app hk])
theorem fA_pick : (List.range' 7 39 ++ [4, 5, 6]).map (z_g (wFpA img w ks ss n who ties su cs sz tl)) = (wNiCo su cs sz (ks, (ss, (n, (who, ties))))).map (fun c => some (z_ren (List.range' 7 39 ++ [4, 5, 6]) c)) := by
  have h := z_emb (z_ren (List.range' 7 39 ++ [4, 5, 6])) tl (wNi su cs sz) (.inl (6, [.inr (.inr 1), .inr (.inr 46), .inl img, .inr (.inr 91), .inr (.inr 93), .inr (.inr 95), .inr (.inr 98)]) :: (wTa w ks ss n who ties).map (z_ren [1, 2, 3, 4, 5, 6]))
  have h2 : [4, 5, 6].map (z_g (wFpA img w ks ss n who ties su cs sz tl)) = (zCoC 39 (ks, (ss, (n, (who, ties))))).map (fun c => some (z_ren (List.range' 7 39 ++ [4, 5, 6]) c)) := rfl
  rw [List.map_append, h2]
  unfold wNiCo
  rw [List.map_append]
  exact congrArg (· ++ _) h
theorem fA_back {su' : Int → Int} {cs' : Nat → zCD} {sz' : Nat} : z_sct (List.range' 7 39 ++ [4, 5, 6]) (List.range' 7 39 ++ [4, 5, 6]) (wNiCo su' cs' sz' (ks, (ss, (n, (who, ties))))) (wFpA img w ks ss n who ties su cs sz tl) = wFpA img w ks ss n who ties su' cs' sz' tl := by
  have h := z_embb (List.range' 7 39 ++ [4, 5, 6]) tl (wNi su' cs' sz') ((wNi su cs sz).map (z_ren (List.range' 7 39 ++ [4, 5, 6]))) (.inl (6, [.inr (.inr 1), .inr (.inr 46), .inl img, .inr (.inr 91), .inr (.inr 93), .inr (.inr 95), .inr (.inr 98)]) :: (wTa w ks ss n who ties).map (z_ren [1, 2, 3, 4, 5, 6])) rfl
  unfold wNiCo
  rw [z_sct_app _ (List.range' 7 39) [4, 5, 6] (wNi su' cs' sz') _ _ rfl]
  have h3 : z_sct (List.range' 7 39 ++ [4, 5, 6]) (List.range' 7 39) (wNi su' cs' sz') (wFpA img w ks ss n who ties su cs sz tl) = wFpA img w ks ss n who ties su' cs' sz' tl := h
  rw [h3]
  rfl
theorem c_Fp_night {x : Int} (hx : -2147483648 ≤ x ∧ x ≤ 2147483647) (hn : n ≤ 9) (hz : sz ≤ 12) :
    zMet m_Fp_night [.inr (.inr 0), .inl x] (wFp img w ks ss n who ties su cs sz tl) (fun v wd =>
      (((0 ≤ x ∧ x < 21) ∧ sz < 12 ∧ n ≠ 0) ∧ v = some (.inl (sz : Int)) ∧ wd = wFp img w ks ss n who ties (z_u su sz x) (z_un cs sz (zCpC (cs sz) (ks, (ss, (n, (who, ties)))))) (sz + 1) tl) ∨
      (¬ ((0 ≤ x ∧ x < 21) ∧ sz < 12 ∧ n ≠ 0) ∧ v = some (.inl (if ¬ (0 ≤ x ∧ x < 21) then -1 else if ¬ sz < 12 then -3 else -2)) ∧ wd = wFp img w ks ss n who ties su cs sz tl)) := by
  refine zMet.of (own := RX6) rfl (by decide +kernel) tk_Fp_night fok_Fp cok_Fp (Nat.le_of_ble_eq_true rfl) (fun G hG => ?_)
  refine hG.1 [] 80 _ _ _ _ ?_
  refine hG.2.2.1 (c_Fp_isSum hx) ys_Fp_isSum (Or.inl lk_Fp_51) (by decide +kernel) rfl [] (by decide +kernel) rfl rfl rfl (Nat.le_of_ble_eq_true rfl) (fun v w2 hv hl2 => ?_)
  obtain ⟨⟨hc, rfl⟩ | ⟨hc, rfl⟩, rfl⟩ := hv
  · change G _ _ _ (wFp img w ks ss n who ties su cs sz tl)
    refine hG.1 [] 80 _ _ _ _ ?_
    refine ⟨by omega, fun h1 => ?_, fun h1 => absurd h1 (by omega)⟩
    refine hG.2.1 (c_Ni_size (su := su) (cs := cs) (sz := sz)) yv_Ni_size lk_Fp_148 (by decide +kernel) rfl rfl (List.range' 7 39) (by decide +kernel) fn_pick rfl rfl (Nat.le_of_ble_eq_true rfl) (fun v w2 hv hl2 => ?_)
    obtain ⟨rfl, rfl⟩ := hv
    rw [fn_back]
    refine hG.1 [] 80 _ _ _ _ ?_
    refine ⟨by omega, fun h2 => ?_, fun h2 => ?_⟩
    · refine hG.2.1 (c_Co_size ) yv_Co_size lk_Fp_69 (by decide +kernel) rfl rfl [4, 5, 6] (by decide +kernel) rfl rfl rfl (Nat.le_of_ble_eq_true rfl) (fun v w2 hv hl2 => ?_)
      obtain ⟨rfl, rfl⟩ := hv
      change G _ _ _ (wFp img w ks ss n who ties su cs sz tl)
      refine hG.1 [] 80 _ _ _ _ ?_
      refine ⟨by omega, fun h3 => ?_, fun h3 => ?_⟩
      · refine hG.2.2.2.2.2.2 fA_weq1 ?_
        refine hG.2.1 (c_Ni_append (su := su) (cs := cs) (sz := sz) (x := x) (c := (ks, (ss, (n, (who, ties))))) (by omega)) yv_Ni_append lk_Fp_206 (by decide +kernel) rfl rfl (List.range' 7 39 ++ [4, 5, 6]) (by decide +kernel) fA_pick rfl rfl (Nat.le_of_ble_eq_true rfl) (fun v w2 hv hl2 => ?_)
        obtain ⟨rfl, rfl⟩ := hv
        rw [fA_back]
        refine hG.2.2.2.2.2.2 fA_weq2 ?_
        refine hG.1 [] 80 _ _ _ _ ?_
        refine hG.2.1 (c_Ni_size (su := z_u su sz x) (cs := z_un cs sz (zCpC (cs sz) (ks, (ss, (n, (who, ties)))))) (sz := sz + 1)) yv_Ni_size lk_Fp_148 (by decide +kernel) rfl rfl (List.range' 7 39) (by decide +kernel) fn_pick rfl rfl (Nat.le_of_ble_eq_true rfl) (fun v w2 hv hl2 => ?_)
        obtain ⟨rfl, rfl⟩ := hv
        rw [fn_back]
        refine hG.1 [] 80 _ _ _ _ ?_
        exact ⟨trivial, Or.inl ⟨⟨hc, by omega, by omega⟩, by congr 2; omega, rfl⟩⟩
      · exact ⟨trivial, Or.inr ⟨by omega, by rw [if_neg (by omega), if_neg (by omega)], rfl⟩⟩
    · exact ⟨trivial, Or.inr ⟨by omega, by rw [if_neg (by omega), if_pos (by omega)], rfl⟩⟩
  · change G _ _ _ (wFp img w ks ss n who ties su cs sz tl)
    refine hG.1 [] 80 _ _ _ _ ?_
    refine ⟨by omega, fun h1 => absurd rfl h1, fun h1 => ?_⟩
    exact ⟨trivial, Or.inr ⟨fun z => hc z.1, by rw [if_pos hc], rfl⟩⟩
end Ng
end
section
/-! TABLE.COPYFROM, image, restore -/
theorem z_weq_sym : ∀ {a b : zW}, z_weq a b → z_weq b a
  | [], [], _ => trivial
  | [], _ :: _, h => h.elim
  | _ :: _, [], h => h.elim
  | c :: a, d :: b, h => ⟨by
      rcases h.1 with rfl | ⟨t, n, f, f', h1, h2, h3⟩
      · exact Or.inl rfl
      · exact Or.inr ⟨t, n, f', f, h2, h1, fun j hj => (h3 j hj).symm⟩, z_weq_sym h.2⟩
theorem zCoCB_weq {φ ψ : Nat → Nat} {o o2 : Nat} {c : zCD} (h1 : φ (o + 1) = ψ (o2 + 1)) (h2 : φ (o + 2) = ψ (o2 + 2)) : z_weq ((zCoC o c).map (z_rf φ)) ((zCoC o2 c).map (z_rf ψ)) := by
  have e : (zCoC o c).map (z_rf φ) = (zCoC o2 c).map (z_rf ψ) := by
    simp only [zCoC, List.map, z_rf, z_rfv, h1, h2]
  rw [e]; exact z_weq_rf _
abbrev wNiB (su' : Int → Int) (cs' : Nat → zCD) (sz' : Nat) : zW := .inl (1, [.inr (.inr 40), .inr (.inr 41), .inl (sz' : Int)]) :: .inr (0, (12, .inl su')) :: .inr (0, (12, .inr (.inr (fun j => 42 + 3 * j.toNat)))) :: zCos2 cs'
theorem wnB_weq {φ ψ : Nat → Nat} {su : Int → Int} {cs : Nat → zCD} {sz : Nat} (h : ∀ k, k < 39 → φ (39 + k) = ψ k) : z_weq ((wNiB su cs sz).map (z_rf φ)) ((wNi su cs sz).map (z_rf ψ)) := by
  refine ⟨Or.inl ?_, Or.inl rfl, Or.inr ⟨0, 12, fun j => φ (42 + 3 * j.toNat), fun j => ψ (3 + 3 * j.toNat), rfl, rfl, fun j hj => ?_⟩, ?_⟩
  · have h1 : φ 40 = ψ 1 := h 1 (by omega)
    have h2 : φ 41 = ψ 2 := h 2 (by omega)
    simp only [z_rf, z_rfv, List.map, h1, h2]
  · have := h (3 + 3 * j) (by omega)
    rw [show 39 + (3 + 3 * j) = 42 + 3 * j by omega] at this
    exact this
  · unfold zCos zCos2
    simp only [List.map_append]
    exact z_weq_app (zCoCB_weq (o := 42) (o2 := 3) (h 4 (by omega)) (h 5 (by omega))) (z_weq_app (zCoCB_weq (o := 45) (o2 := 6) (h 7 (by omega)) (h 8 (by omega))) (z_weq_app (zCoCB_weq (o := 48) (o2 := 9) (h 10 (by omega)) (h 11 (by omega))) (z_weq_app (zCoCB_weq (o := 51) (o2 := 12) (h 13 (by omega)) (h 14 (by omega))) (z_weq_app (zCoCB_weq (o := 54) (o2 := 15) (h 16 (by omega)) (h 17 (by omega))) (z_weq_app (zCoCB_weq (o := 57) (o2 := 18) (h 19 (by omega)) (h 20 (by omega))) (z_weq_app (zCoCB_weq (o := 60) (o2 := 21) (h 22 (by omega)) (h 23 (by omega))) (z_weq_app (zCoCB_weq (o := 63) (o2 := 24) (h 25 (by omega)) (h 26 (by omega))) (z_weq_app (zCoCB_weq (o := 66) (o2 := 27) (h 28 (by omega)) (h 29 (by omega))) (z_weq_app (zCoCB_weq (o := 69) (o2 := 30) (h 31 (by omega)) (h 32 (by omega))) (z_weq_app (zCoCB_weq (o := 72) (o2 := 33) (h 34 (by omega)) (h 35 (by omega))) (zCoCB_weq (o := 75) (o2 := 36) (h 37 (by omega)) (h 38 (by omega)))))))))))))
section Tc
variable {img : Int} {w ks ss : Int → Int} {n : Nat} {who ties : Int} {su : Int → Int} {cs : Nat → zCD} {sz : Nat} {w' ks' ss' : Int → Int} {n' : Nat} {who' ties' : Int} {su' : Int → Int} {cs' : Nat → zCD} {sz' : Nat} {tl : zW}
abbrev wTT (w ks ss : Int → Int) (n : Nat) (who ties : Int) (su : Int → Int) (cs : Nat → zCD) (sz : Nat) (w' ks' ss' : Int → Int) (n' : Nat) (who' ties' : Int) (su' : Int → Int) (cs' : Nat → zCD) (sz' : Nat) : zW :=
  wTa w ks ss n who ties ++ ((wNi su cs sz).map (z_ren (List.range' 6 39)) ++ ((wTa w' ks' ss' n' who' ties').map (z_ren (List.range' 45 6)) ++ (wNi su' cs' sz').map (z_ren (List.range' 51 39))))
abbrev wTTA (w ks ss : Int → Int) (n : Nat) (who ties : Int) (su : Int → Int) (cs : Nat → zCD) (sz : Nat) (w' ks' ss' : Int → Int) (n' : Nat) (who' ties' : Int) (su' : Int → Int) (cs' : Nat → zCD) (sz' : Nat) : zW :=
  wTa w ks ss n who ties ++ ((wNi su cs sz).map (z_ren (List.range' 6 39 ++ List.range' 51 39)) ++ ((wTa w' ks' ss' n' who' ties').map (z_ren (List.range' 45 6)) ++ (wNiB su' cs' sz').map (z_ren (List.range' 6 39 ++ List.range' 51 39))))
theorem tt_weq1 : z_weq (wTT w ks ss n who ties su cs sz w' ks' ss' n' who' ties' su' cs' sz') (wTTA w ks ss n who ties su cs sz w' ks' ss' n' who' ties' su' cs' sz') := by
  refine z_weq_app (z_weq_rf _) (z_weq_app ?_ (z_weq_app (z_weq_rf _) ?_))
  · rw [z_ren_map, z_ren_map]
    exact wn_weq (fun k hk => by rw [zp_rg hk, zp_app hk])
  · rw [z_ren_map, z_ren_map]
    exact z_weq_sym (wnB_weq (fun k hk => by rw [zp_rg hk, zp_app2 hk]))
theorem tt_weq2 : z_weq (wTTA w ks ss n who ties su cs sz w' ks' ss' n' who' ties' su' cs' sz') (wTT w ks ss n who ties su cs sz w' ks' ss' n' who' ties' su' cs' sz') := z_weq_sym tt_weq1
theorem tt_pick : (List.range' 6 39 ++ List.range' 51 39).map (z_g (wTTA w ks ss n who ties su cs sz w' ks' ss' n' who' ties' su' cs' sz')) = (wNi2 su cs sz su' cs' sz').map (fun c => some (z_ren (List.range' 6 39 ++ List.range' 51 39) c)) := by
  have h1 := z_emb (z_ren (List.range' 6 39 ++ List.range' 51 39)) ((wTa w' ks' ss' n' who' ties').map (z_ren (List.range' 45 6)) ++ (wNiB su' cs' sz').map (z_ren (List.range' 6 39 ++ List.range' 51 39))) (wNi su cs sz) (wTa w ks ss n who ties)
  have h2 := z_emb (z_ren (List.range' 6 39 ++ List.range' 51 39)) [] (wNiB su' cs' sz') (wTa w ks ss n who ties ++ ((wNi su cs sz).map (z_ren (List.range' 6 39 ++ List.range' 51 39)) ++ (wTa w' ks' ss' n' who' ties').map (z_ren (List.range' 45 6))))
  rw [List.append_nil, List.append_assoc, List.append_assoc] at h2
  have e : wNi2 su cs sz su' cs' sz' = wNi su cs sz ++ wNiB su' cs' sz' := rfl
  rw [e, List.map_append, List.map_append]
  exact congr (congrArg (· ++ ·) h1) h2
theorem tt_back {sua : Int → Int} {csa : Nat → zCD} {sza : Nat} : z_sct (List.range' 6 39 ++ List.range' 51 39) (List.range' 6 39 ++ List.range' 51 39) (wNi2 sua csa sza su' cs' sz') (wTTA w ks ss n who ties su cs sz w' ks' ss' n' who' ties' su' cs' sz') = wTTA w ks ss n who ties sua csa sza w' ks' ss' n' who' ties' su' cs' sz' := by
  have h1 := z_embb (List.range' 6 39 ++ List.range' 51 39) ((wTa w' ks' ss' n' who' ties').map (z_ren (List.range' 45 6)) ++ (wNiB su' cs' sz').map (z_ren (List.range' 6 39 ++ List.range' 51 39))) (wNi sua csa sza) ((wNi su cs sz).map (z_ren (List.range' 6 39 ++ List.range' 51 39))) (wTa w ks ss n who ties) rfl
  have h2 := z_embb (List.range' 6 39 ++ List.range' 51 39) [] (wNiB su' cs' sz') ((wNiB su' cs' sz').map (z_ren (List.range' 6 39 ++ List.range' 51 39))) (wTa w ks ss n who ties ++ ((wNi sua csa sza).map (z_ren (List.range' 6 39 ++ List.range' 51 39)) ++ (wTa w' ks' ss' n' who' ties').map (z_ren (List.range' 45 6)))) rfl
  rw [List.append_nil, List.append_assoc, List.append_assoc] at h2
  have e : wNi2 sua csa sza su' cs' sz' = wNi sua csa sza ++ wNiB su' cs' sz' := rfl
  rw [e, z_sct_app _ (List.range' 6 39) (List.range' 51 39) (wNi sua csa sza) _ _ rfl]
  have h3 : z_sct (List.range' 6 39 ++ List.range' 51 39) (List.range' 6 39) (wNi sua csa sza) (wTTA w ks ss n who ties su cs sz w' ks' ss' n' who' ties' su' cs' sz') = wTTA w ks ss n who ties sua csa sza w' ks' ss' n' who' ties' su' cs' sz' := h1
  rw [h3]
  exact h2
theorem c_Ta_copyFrom (hz : sz' ≤ 12) :
    zMet m_Ta_copyFrom [.inr (.inr 0), .inr (.inr 45)] (wTT w ks ss n who ties su cs sz w' ks' ss' n' who' ties' su' cs' sz') (fun v wd => v = none ∧ wd = wTT (z_cpy w' w 21) (z_cpy ks' ks 9) (z_cpy ss' ss 9) n' who' ties' (zMx su' su sz') (zMxC cs cs' sz') sz' w' ks' ss' n' who' ties' su' cs' sz') := by
  refine zMet.of (own := RX4) rfl (by decide +kernel) tk_Ta_copyFrom fok_Ta cok_Ta (Nat.le_of_ble_eq_true rfl) (fun G hG => ?_)
  refine hG.1 [] 80 _ _ _ _ ?_
  refine hG.2.1 (c_Su_copyFrom (w := w) (w' := w')) yv_Su_copyFrom lk_Ta_32 (by decide +kernel) rfl rfl [1, 2, 46, 47] (by decide +kernel) rfl rfl rfl (Nat.le_of_ble_eq_true rfl) (fun v w2 hv hl2 => ?_)
  obtain ⟨rfl, rfl⟩ := hv
  change G _ _ _ (wTT (z_cpy w' w 21) ks ss n who ties su cs sz w' ks' ss' n' who' ties' su' cs' sz')
  refine hG.1 [] 80 _ _ _ _ ?_
  refine hG.2.1 (c_Co_copyFrom (ks := ks) (ss := ss) (n := n) (who := who) (ties := ties) (ks' := ks') (ss' := ss') (n' := n') (who' := who') (ties' := ties')) yv_Co_copyFrom lk_Ta_36 (by decide +kernel) rfl rfl [3, 4, 5, 48, 49, 50] (by decide +kernel) rfl rfl rfl (Nat.le_of_ble_eq_true rfl) (fun v w2 hv hl2 => ?_)
  obtain ⟨rfl, rfl⟩ := hv
  change G _ _ _ (wTT (z_cpy w' w 21) (z_cpy ks' ks 9) (z_cpy ss' ss 9) n' who' ties' su cs sz w' ks' ss' n' who' ties' su' cs' sz')
  refine hG.1 [] 80 _ _ _ _ ?_
  refine hG.2.2.2.2.2.2 tt_weq1 ?_
  refine hG.2.1 (c_Ni_copyFrom (su := su) (cs := cs) (sz := sz) (su' := su') (cs' := cs') (sz' := sz') hz) yv_Ni_copyFrom lk_Ta_39 (by decide +kernel) rfl rfl (List.range' 6 39 ++ List.range' 51 39) (by decide +kernel) tt_pick rfl rfl (Nat.le_of_ble_eq_true rfl) (fun v w2 hv hl2 => ?_)
  obtain ⟨rfl, rfl⟩ := hv
  rw [tt_back]
  refine hG.2.2.2.2.2.2 tt_weq2 ?_
  refine hG.1 [] 80 _ _ _ _ ?_
  exact ⟨trivial, rfl, rfl⟩
abbrev zKs (w' ks' ss' : Int → Int) (n' : Nat) (who' ties' : Int) (su' : Int → Int) (cs' : Nat → zCD) (sz' : Nat) (tl : zW) : zW := (wTa w' ks' ss' n' who' ties').map (z_ren (List.range' 46 6)) ++ ((wNi su' cs' sz').map (z_ren (List.range' 52 39)) ++ tl)
abbrev zRoot (img : Int) : zC := .inl (6, [.inr (.inr 1), .inr (.inr 46), .inl img, .inr (.inr 91), .inr (.inr 93), .inr (.inr 95), .inr (.inr 98)])
-- a table's cells as the first, as the second of two
abbrev zTA (w ks ss : Int → Int) (n : Nat) (who ties : Int) (su : Int → Int) (cs : Nat → zCD) (sz : Nat) : zW := wTa w ks ss n who ties ++ (wNi su cs sz).map (z_ren (List.range' 6 39))
abbrev zTBB (w ks ss : Int → Int) (n : Nat) (who ties : Int) (su : Int → Int) (cs : Nat → zCD) (sz : Nat) : zW := (wTa w ks ss n who ties).map (z_ren (List.range' 45 6)) ++ (wNi su cs sz).map (z_ren (List.range' 51 39))
theorem tt_split : wTT w ks ss n who ties su cs sz w' ks' ss' n' who' ties' su' cs' sz' = zTA w ks ss n who ties su cs sz ++ zTBB w' ks' ss' n' who' ties' su' cs' sz' := by
  unfold wTT zTA zTBB
  rw [List.append_assoc]
theorem seg_weq {a : Nat} {π : List Nat} {σ1 σ2 ρ1 ρ2 : List Nat} (h1 : ∀ k, k < 7 → z_pl π (z_pl σ1 k) = z_pl ρ1 k) (h2 : ∀ k, k < 39 → z_pl π (z_pl σ2 k) = z_pl ρ2 k) :
    z_weq (((wTa w ks ss n who ties).map (z_ren σ1) ++ (wNi su cs sz).map (z_ren σ2)).map (z_ren π)) ((wTa w ks ss n who ties).map (z_ren ρ1) ++ (wNi su cs sz).map (z_ren ρ2)) := by
  rw [List.map_append]
  simp only [z_ren_map, z_rf_map]
  refine z_weq_app ?_ (wn_weq h2)
  rw [wt_eq h1]
  exact z_weq_rf _
theorem seg_weq0 {π : List Nat} {σ2 ρ1 ρ2 : List Nat} (h1 : ∀ k, k < 7 → z_pl π k = z_pl ρ1 k) (h2 : ∀ k, k < 39 → z_pl π (z_pl σ2 k) = z_pl ρ2 k) :
    z_weq ((wTa w ks ss n who ties ++ (wNi su cs sz).map (z_ren σ2)).map (z_ren π)) ((wTa w ks ss n who ties).map (z_ren ρ1) ++ (wNi su cs sz).map (z_ren ρ2)) := by
  rw [List.map_append]
  simp only [z_ren_map, z_rf_map]
  refine z_weq_app ?_ (wn_weq h2)
  rw [wt_eq h1]
  exact z_weq_rf _
abbrev πI : List Nat := List.range' 46 45 ++ List.range' 1 45
abbrev πR : List Nat := List.range' 1 45 ++ List.range' 46 45
abbrev wIm (img : Int) (w ks ss : Int → Int) (n : Nat) (who ties : Int) (su : Int → Int) (cs : Nat → zCD) (sz : Nat) (w' ks' ss' : Int → Int) (n' : Nat) (who' ties' : Int) (su' : Int → Int) (cs' : Nat → zCD) (sz' : Nat) (tl : zW) : zW := [zRoot img] ++ ((zTBB w ks ss n who ties su cs sz).map (z_ren πI) ++ ((zTA w' ks' ss' n' who' ties' su' cs' sz').map (z_ren πI) ++ tl))
abbrev wRe (img : Int) (w ks ss : Int → Int) (n : Nat) (who ties : Int) (su : Int → Int) (cs : Nat → zCD) (sz : Nat) (w' ks' ss' : Int → Int) (n' : Nat) (who' ties' : Int) (su' : Int → Int) (cs' : Nat → zCD) (sz' : Nat) (tl : zW) : zW := [zRoot img] ++ ((zTA w ks ss n who ties su cs sz).map (z_ren πR) ++ ((zTBB w' ks' ss' n' who' ties' su' cs' sz').map (z_ren πR) ++ tl))
theorem fp_split : wFp img w ks ss n who ties su cs sz (zKs w' ks' ss' n' who' ties' su' cs' sz' tl) = [zRoot img] ++ (((wTa w ks ss n who ties).map (z_ren [1, 2, 3, 4, 5, 6]) ++ (wNi su cs sz).map (z_ren (List.range' 7 39))) ++ (((wTa w' ks' ss' n' who' ties').map (z_ren (List.range' 46 6)) ++ (wNi su' cs' sz').map (z_ren (List.range' 52 39))) ++ tl)) := by
  unfold wFp zKs
  simp only [List.append_assoc, List.cons_append, List.nil_append]
theorem im_weq : z_weq (wIm img w ks ss n who ties su cs sz w' ks' ss' n' who' ties' su' cs' sz' tl) (wFp img w ks ss n who ties su cs sz (zKs w' ks' ss' n' who' ties' su' cs' sz' tl)) := by
  rw [fp_split]
  exact z_weq_app (z_weq_rf _) (z_weq_app (seg_weq (a := 0) (by decide +kernel) (by decide +kernel)) (z_weq_app (seg_weq0 (by decide +kernel) (by decide +kernel)) (z_weq_rf _)))
theorem re_weq : z_weq (wRe img w ks ss n who ties su cs sz w' ks' ss' n' who' ties' su' cs' sz' tl) (wFp img w ks ss n who ties su cs sz (zKs w' ks' ss' n' who' ties' su' cs' sz' tl)) := by
  rw [fp_split]
  exact z_weq_app (z_weq_rf _) (z_weq_app (seg_weq0 (by decide +kernel) (by decide +kernel)) (z_weq_app (seg_weq (a := 0) (by decide +kernel) (by decide +kernel)) (z_weq_rf _)))
theorem im_pick : πI.map (z_g (wIm img w ks ss n who ties su cs sz w' ks' ss' n' who' ties' su' cs' sz' tl)) = (wTT w' ks' ss' n' who' ties' su' cs' sz' w ks ss n who ties su cs sz).map (fun c => some (z_ren πI c)) := by
  have h1 := z_emb (z_ren πI) tl (zTA w' ks' ss' n' who' ties' su' cs' sz') ([zRoot img] ++ (zTBB w ks ss n who ties su cs sz).map (z_ren πI))
  have h2 := z_emb (z_ren πI) ((zTA w' ks' ss' n' who' ties' su' cs' sz').map (z_ren πI) ++ tl) (zTBB w ks ss n who ties su cs sz) [zRoot img]
  rw [List.append_assoc] at h1
  rw [tt_split, List.map_append, List.map_append]
  exact congr (congrArg (· ++ ·) h1) h2
theorem im_back {wa ksa ssa : Int → Int} {na : Nat} {whoa tiesa : Int} {sua : Int → Int} {csa : Nat → zCD} {sza : Nat} : z_sct πI πI (wTT wa ksa ssa na whoa tiesa sua csa sza w ks ss n who ties su cs sz) (wIm img w ks ss n who ties su cs sz w' ks' ss' n' who' ties' su' cs' sz' tl) = wIm img w ks ss n who ties su cs sz wa ksa ssa na whoa tiesa sua csa sza tl := by
  have h1 := z_embb πI tl (zTA wa ksa ssa na whoa tiesa sua csa sza) ((zTA w' ks' ss' n' who' ties' su' cs' sz').map (z_ren πI)) ([zRoot img] ++ (zTBB w ks ss n who ties su cs sz).map (z_ren πI)) rfl
  have h2 := z_embb πI ((zTA wa ksa ssa na whoa tiesa sua csa sza).map (z_ren πI) ++ tl) (zTBB w ks ss n who ties su cs sz) ((zTBB w ks ss n who ties su cs sz).map (z_ren πI)) [zRoot img] rfl
  simp only [List.append_assoc] at h1
  rw [tt_split]
  show z_sct πI (List.range' 46 45 ++ List.range' 1 45) _ _ = _
  rw [z_sct_app _ (List.range' 46 45) (List.range' 1 45) (zTA wa ksa ssa na whoa tiesa sua csa sza) _ _ rfl]
  have h3 : z_sct πI (List.range' 46 45) (zTA wa ksa ssa na whoa tiesa sua csa sza) (wIm img w ks ss n who ties su cs sz w' ks' ss' n' who' ties' su' cs' sz' tl) = wIm img w ks ss n who ties su cs sz wa ksa ssa na whoa tiesa sua csa sza tl := h1
  rw [h3]
  exact h2
theorem re_pick : πR.map (z_g (wRe img w ks ss n who ties su cs sz w' ks' ss' n' who' ties' su' cs' sz' tl)) = (wTT w ks ss n who ties su cs sz w' ks' ss' n' who' ties' su' cs' sz').map (fun c => some (z_ren πR c)) := by
  have h1 := z_emb (z_ren πR) ((zTBB w' ks' ss' n' who' ties' su' cs' sz').map (z_ren πR) ++ tl) (zTA w ks ss n who ties su cs sz) [zRoot img]
  have h2 := z_emb (z_ren πR) tl (zTBB w' ks' ss' n' who' ties' su' cs' sz') ([zRoot img] ++ (zTA w ks ss n who ties su cs sz).map (z_ren πR))
  rw [List.append_assoc] at h2
  rw [tt_split, List.map_append, List.map_append]
  exact congr (congrArg (· ++ ·) h1) h2
theorem re_back {wa ksa ssa : Int → Int} {na : Nat} {whoa tiesa : Int} {sua : Int → Int} {csa : Nat → zCD} {sza : Nat} : z_sct πR πR (wTT wa ksa ssa na whoa tiesa sua csa sza w' ks' ss' n' who' ties' su' cs' sz') (wRe img w ks ss n who ties su cs sz w' ks' ss' n' who' ties' su' cs' sz' tl) = wRe img wa ksa ssa na whoa tiesa sua csa sza w' ks' ss' n' who' ties' su' cs' sz' tl := by
  have h1 := z_embb πR ((zTBB w' ks' ss' n' who' ties' su' cs' sz').map (z_ren πR) ++ tl) (zTA wa ksa ssa na whoa tiesa sua csa sza) ((zTA w ks ss n who ties su cs sz).map (z_ren πR)) [zRoot img] rfl
  have h2 := z_embb πR tl (zTBB w' ks' ss' n' who' ties' su' cs' sz') ((zTBB w' ks' ss' n' who' ties' su' cs' sz').map (z_ren πR)) ([zRoot img] ++ (zTA wa ksa ssa na whoa tiesa sua csa sza).map (z_ren πR)) rfl
  simp only [List.append_assoc] at h2
  rw [tt_split]
  show z_sct πR (List.range' 1 45 ++ List.range' 46 45) _ _ = _
  rw [z_sct_app _ (List.range' 1 45) (List.range' 46 45) (zTA wa ksa ssa na whoa tiesa sua csa sza) _ _ rfl]
  have h3 : z_sct πR (List.range' 1 45) (zTA wa ksa ssa na whoa tiesa sua csa sza) (wRe img w ks ss n who ties su cs sz w' ks' ss' n' who' ties' su' cs' sz' tl) = wRe img wa ksa ssa na whoa tiesa sua csa sza w' ks' ss' n' who' ties' su' cs' sz' tl := h1
  rw [h3]
  exact h2
theorem c_Fp_image (hz : sz ≤ 12) :
    zMet m_Fp_image [.inr (.inr 0)] (wFp img w ks ss n who ties su cs sz (zKs w' ks' ss' n' who' ties' su' cs' sz' tl)) (fun v wd => v = some (.inl 1) ∧ wd = wFp 1 w ks ss n who ties su cs sz (zKs (z_cpy w w' 21) (z_cpy ks ks' 9) (z_cpy ss ss' 9) n who ties (zMx su su' sz) (zMxC cs' cs sz) sz tl)) := by
  refine zMet.of (own := RX6) rfl (by decide +kernel) tk_Fp_image fok_Fp cok_Fp (Nat.le_of_ble_eq_true rfl) (fun G hG => ?_)
  refine hG.1 [] 80 _ _ _ _ ?_
  refine hG.2.2.2.2.2.2 (z_weq_sym im_weq) ?_
  refine hG.2.1 (c_Ta_copyFrom (w := w') (ks := ks') (ss := ss') (n := n') (who := who') (ties := ties') (su := su') (cs := cs') (sz := sz') (w' := w) (ks' := ks) (ss' := ss) (n' := n) (who' := who) (ties' := ties) (su' := su) (cs' := cs) (sz' := sz) hz) yv_Ta_copyFrom lk_Fp_218 (by decide +kernel) rfl rfl πI (by decide +kernel) im_pick rfl rfl (Nat.le_of_ble_eq_true rfl) (fun v w2 hv hl2 => ?_)
  obtain ⟨rfl, rfl⟩ := hv
  rw [im_back]
  refine hG.2.2.2.2.2.2 im_weq ?_
  refine hG.1 [] 80 _ _ _ _ ?_
  exact ⟨Or.inr rfl, trivial, rfl, rfl⟩
theorem c_Fp_restore (hi : img = 0 ∨ img = 1) (hz : sz' ≤ 12) :
    zMet m_Fp_restore [.inr (.inr 0)] (wFp img w ks ss n who ties su cs sz (zKs w' ks' ss' n' who' ties' su' cs' sz' tl)) (fun v wd => (img = 0 ∧ v = some (.inl (-4)) ∧ wd = wFp img w ks ss n who ties su cs sz (zKs w' ks' ss' n' who' ties' su' cs' sz' tl)) ∨ (img = 1 ∧ v = some (.inl 1) ∧ wd = wFp img (z_cpy w' w 21) (z_cpy ks' ks 9) (z_cpy ss' ss 9) n' who' ties' (zMx su' su sz') (zMxC cs cs' sz') sz' (zKs w' ks' ss' n' who' ties' su' cs' sz' tl))) := by
  refine zMet.of (own := RX6) rfl (by decide +kernel) tk_Fp_restore fok_Fp cok_Fp (Nat.le_of_ble_eq_true rfl) (fun G hG => ?_)
  refine hG.1 [] 80 _ _ _ _ ?_
  refine ⟨by omega, fun h1 => ?_, fun h1 => ?_⟩
  · refine hG.2.2.2.2.2.2 (z_weq_sym re_weq) ?_
    refine hG.2.1 (c_Ta_copyFrom (w := w) (ks := ks) (ss := ss) (n := n) (who := who) (ties := ties) (su := su) (cs := cs) (sz := sz) (w' := w') (ks' := ks') (ss' := ss') (n' := n') (who' := who') (ties' := ties') (su' := su') (cs' := cs') (sz' := sz') hz) yv_Ta_copyFrom lk_Fp_218 (by decide +kernel) rfl rfl πR (by decide +kernel) re_pick rfl rfl (Nat.le_of_ble_eq_true rfl) (fun v w2 hv hl2 => ?_)
    obtain ⟨rfl, rfl⟩ := hv
    rw [re_back]
    refine hG.2.2.2.2.2.2 re_weq ?_
    refine hG.1 [] 80 _ _ _ _ ?_
    exact ⟨trivial, Or.inr ⟨by omega, rfl, rfl⟩⟩
  · exact ⟨trivial, Or.inl ⟨h1, rfl, rfl⟩⟩
end Tc
end
section
/-! FARTHESTPAYS: texts, sheets: the whole object -/
abbrev zShC (o : Nat) (s : zSD) : zW := [.inl (2, [.inr (.inr (o + 1)), .inl s.2.1, .inl s.2.2]), .inr (0, (24, .inr (.inl s.1)))]
abbrev zTs (b : Int → Int) (tn tp : Nat) (fl : Int) (rs : Int → Int) (rc : zCD) (sh : Nat → zSD) : zW := .inl (5, [.inr (.inr 92), .inl (tn : Int), .inl (tp : Int), .inl fl]) :: .inr (0, (80, .inl b)) :: .inl (3, [.inr (.inr 94)]) :: .inr (0, (21, .inl rs)) :: .inl (0, [.inr (.inr 96), .inr (.inr 97), .inl (rc.2.2.1 : Int), .inl rc.2.2.2.1, .inl rc.2.2.2.2]) :: .inr (0, (9, .inl rc.1)) :: .inr (0, (9, .inl rc.2.1)) :: .inr (1, (4, .inr (.inr (fun j => 99 + 2 * j.toNat)))) :: (zShC 99 (sh 0) ++ (zShC 101 (sh 1) ++ (zShC 103 (sh 2) ++ zShC 105 (sh 3))))
def z_us (sh : Nat → zSD) (i : Nat) (s : zSD) : Nat → zSD := fun k => if k = i then s else sh k
def zApp (x : Int) : Nat → (Int → Int) → Nat → (Int → Int)
  | 0, b, _ => b
  | k + 1, b, tn => zApp x k (z_u b tn (zByte x k)) (tn + 1)
def zPrn (x : Int) (k : Nat) : Prop := ∀ i : Nat, i < k → 32 ≤ zByte x i ∧ zByte x i ≤ 126
section Fw
variable {img : Int} {w ks ss : Int → Int} {n : Nat} {who ties : Int} {su : Int → Int} {cs : Nat → zCD} {sz : Nat} {w' ks' ss' : Int → Int} {n' : Nat} {who' ties' : Int} {su' : Int → Int} {cs' : Nat → zCD} {sz' : Nat} {b : Int → Int} {tn tp : Nat} {fl : Int} {rs : Int → Int} {rc : zCD} {sh : Nat → zSD}
theorem c_Fp_type {x y : Int} (hy : -2147483648 ≤ y ∧ y ≤ 2147483647) (ht : tn ≤ 80) :
    zMet m_Fp_type [.inr (.inr 0), .inr (.inl x), .inl y] (wFp img w ks ss n who ties su cs sz (zKs w' ks' ss' n' who' ties' su' cs' sz' (zTs b tn tp fl rs rc sh))) (fun v wd =>
      (((1 ≤ y ∧ y ≤ 8) ∧ zPrn x y.toNat) ∧ (tn : Int) ≤ 80 - y ∧ v = some (.inl ((tn + y.toNat : Nat) : Int)) ∧ wd = wFp img w ks ss n who ties su cs sz (zKs w' ks' ss' n' who' ties' su' cs' sz' (zTs (zApp x y.toNat b tn) (tn + y.toNat) tp fl rs rc sh))) ∨
      (((1 ≤ y ∧ y ≤ 8) ∧ zPrn x y.toNat) ∧ ¬ (tn : Int) ≤ 80 - y ∧ v = some (.inl (-3)) ∧ wd = wFp img w ks ss n who ties su cs sz (zKs w' ks' ss' n' who' ties' su' cs' sz' (zTs b tn tp fl rs rc sh))) ∨
      (¬ ((1 ≤ y ∧ y ≤ 8) ∧ zPrn x y.toNat) ∧ v = some (.inl (-1)) ∧ wd = wFp img w ks ss n who ties su cs sz (zKs w' ks' ss' n' who' ties' su' cs' sz' (zTs b tn tp fl rs rc sh)))) := by
  refine zMet.of (own := RX6) rfl (by decide +kernel) tk_Fp_type fok_Fp cok_Fp (Nat.le_of_ble_eq_true rfl) (fun G hG => ?_)
  refine hG.1 [21] 80 _ _ _ _ ?_
  refine ⟨by omega, fun h1 => ?_, fun h1 => ?_⟩
  · exact ⟨trivial, Or.inr (Or.inr ⟨fun z => by have := z.1; omega, rfl, rfl⟩)⟩
  · refine ⟨by omega, fun h2 => ?_, fun h2 => ?_⟩
    · exact ⟨trivial, Or.inr (Or.inr ⟨fun z => by have := z.1; omega, rfl, rfl⟩)⟩
    · obtain ⟨k, rfl⟩ := z_nat (show 0 ≤ y by omega)
      rw [Int.toNat_natCast]
      refine hG.2.2.1 (c_Fp_isPrintable (x := x) (k := k) (by omega)) ys_Fp_isPrintable (Or.inl lk_Fp_107) (by decide +kernel) rfl [] (by decide +kernel) rfl rfl rfl (Nat.le_of_ble_eq_true rfl) (fun v w2 hv hl2 => ?_)
      obtain ⟨⟨hc, rfl⟩ | ⟨hc, rfl⟩, rfl⟩ := hv
      · refine hG.1 [21] 80 _ _ _ _ ?_
        refine ⟨by omega, fun h3 => ?_, fun h3 => absurd h3 (by omega)⟩
        refine hG.1 [] 80 _ _ _ _ ?_
        refine hG.2.1 (c_Tp_size (b := b) (n := tn) (p := tp) (fl := fl)) yv_Tp_size lk_Fp_111 (by decide +kernel) rfl rfl [91, 92] (by decide +kernel) rfl rfl rfl (Nat.le_of_ble_eq_true rfl) (fun v w2 hv hl2 => ?_)
        obtain ⟨rfl, rfl⟩ := hv
        change G _ _ _ (wFp img w ks ss n who ties su cs sz (zKs w' ks' ss' n' who' ties' su' cs' sz' (zTs b tn tp fl rs rc sh)))
        refine hG.1 [43] 80 _ _ _ _ ?_
        refine ⟨by omega, fun h4 => ?_, fun h4 => ?_⟩
        · have key : ∀ j : Nat, j ≤ k → ∀ (b1 : Int → Int) (t1 : Nat), t1 + j = tn + k → zApp x j b1 t1 = zApp x k b tn → G 43 [(0, .inr (.inr 0)), (1, .inr (.inl x)), (3, .inl (k : Int)), (4, .inl ((j : Int) - 1))] [] (wFp img w ks ss n who ties su cs sz (zKs w' ks' ss' n' who' ties' su' cs' sz' (zTs b1 t1 tp fl rs rc sh))) := by
            intro j
            induction j with
            | zero =>
              intro hj b1 t1 h5 h6
              refine hG.1 [] 80 _ _ _ _ ?_
              refine ⟨by omega, fun h7 => ?_, fun h7 => absurd h7 (by omega)⟩
              refine hG.2.1 (c_Tp_size (b := b1) (n := t1) (p := tp) (fl := fl)) yv_Tp_size lk_Fp_111 (by decide +kernel) rfl rfl [91, 92] (by decide +kernel) rfl rfl rfl (Nat.le_of_ble_eq_true rfl) (fun v w2 hv hl2 => ?_)
              obtain ⟨rfl, rfl⟩ := hv
              change G _ _ _ (wFp img w ks ss n who ties su cs sz (zKs w' ks' ss' n' who' ties' su' cs' sz' (zTs b1 t1 tp fl rs rc sh)))
              refine hG.1 [] 80 _ _ _ _ ?_
              have h6 : b1 = zApp x k b tn := h6
              have h5 : t1 = tn + k := by omega
              exact ⟨trivial, Or.inl ⟨⟨by omega, hc⟩, by omega, by rw [h5, Int.toNat_natCast], by rw [Int.toNat_natCast, ← h6, h5]⟩⟩
            | succ j ih =>
              intro hj b1 t1 h5 h6
              have h6 : zApp x j (z_u b1 t1 (zByte x j)) (t1 + 1) = zApp x k b tn := h6
              have ej : (((j + 1 : Nat) : Int) - 1) = (j : Int) := by omega
              rw [ej]
              refine hG.1 [] 80 _ _ _ _ ?_
              refine ⟨by omega, fun h7 => absurd h7 (by omega), fun h7 => ?_⟩
              refine hG.2.2.1 (c_Fp_byteOf (x := x) (i := j) (by omega)) ys_Fp_byteOf (Or.inl lk_Fp_112) (by decide +kernel) rfl [] (by decide +kernel) rfl rfl rfl (Nat.le_of_ble_eq_true rfl) (fun v w2 hv hl2 => ?_)
              obtain ⟨rfl, rfl⟩ := hv
              change G _ _ _ (wFp img w ks ss n who ties su cs sz (zKs w' ks' ss' n' who' ties' su' cs' sz' (zTs b1 t1 tp fl rs rc sh)))
              refine hG.1 [] 80 _ _ _ _ ?_
              refine hG.2.1 (c_Tp_append (b := b1) (n := t1) (p := tp) (fl := fl) (x := zByte x j) (by omega)) yv_Tp_append lk_Fp_116 (by decide +kernel) rfl rfl [91, 92] (by decide +kernel) rfl rfl rfl (Nat.le_of_ble_eq_true rfl) (fun v w2 hv hl2 => ?_)
              obtain ⟨rfl, rfl⟩ := hv
              change G _ _ _ (wFp img w ks ss n who ties su cs sz (zKs w' ks' ss' n' who' ties' su' cs' sz' (zTs (z_u b1 t1 (zByte x j)) (t1 + 1) tp fl rs rc sh)))
              refine hG.1 [43] 80 _ _ _ _ ?_
              exact ih (by omega) _ _ (by omega) h6
          exact key k (Nat.le_refl k) b tn rfl rfl
        · exact ⟨trivial, Or.inr (Or.inl ⟨⟨by omega, hc⟩, by omega, rfl, rfl⟩)⟩
      · refine hG.1 [21] 80 _ _ _ _ ?_
        refine ⟨by omega, fun h3 => absurd rfl h3, fun h3 => ?_⟩
        exact ⟨trivial, Or.inr (Or.inr ⟨fun z => hc z.2, rfl, rfl⟩)⟩
theorem c_Fp_supper (ht : tn ≤ 80) (hb : ∀ j : Nat, j < tn → 32 ≤ b j ∧ b j ≤ 126) :
    zMet m_Fp_supper [.inr (.inr 0)] (wFp img w ks ss n who ties su cs sz (zKs w' ks' ss' n' who' ties' su' cs' sz' (zTs b tn tp fl rs rc sh))) (fun v wd => ∃ (p2 : Nat) (f2 : Int) (r2 : Int → Int), zMQ (zMeal b tn 8 (zFill rs 21) 0) f2 r2 ∧
      ((f2 ≠ 0 ∧ v = some (.inl f2) ∧ wd = wFp img w ks ss n who ties su cs sz (zKs w' ks' ss' n' who' ties' su' cs' sz' (zTs b 0 p2 f2 r2 rc sh))) ∨
       (f2 = 0 ∧ v = some (.inl (zSumN (z_cpy r2 w 21) 21)) ∧ wd = wFp img (z_cpy r2 w 21) ks ss n who ties su cs sz (zKs w' ks' ss' n' who' ties' su' cs' sz' (zTs b 0 p2 f2 r2 rc sh))))) := by
  refine zMet.of (own := RX6) rfl (by decide +kernel) tk_Fp_supper fok_Fp cok_Fp (Nat.le_of_ble_eq_true rfl) (fun G hG => ?_)
  refine hG.1 [] 80 _ _ _ _ ?_
  refine hG.2.1 (c_Tp_takeSupper (b := b) (n := tn) (p := tp) (fl := fl) (w := rs) ht hb) yv_Tp_takeSupper lk_Fp_120 (by decide +kernel) rfl rfl [91, 92, 93, 94] (by decide +kernel) rfl rfl rfl (Nat.le_of_ble_eq_true rfl) (fun v w2 hv hl2 => ?_)
  obtain ⟨p2, f2, r2, rfl, rfl, hf2, hQ⟩ := hv
  change G _ _ _ (wFp img w ks ss n who ties su cs sz (zKs w' ks' ss' n' who' ties' su' cs' sz' (zTs b 0 p2 f2 r2 rc sh)))
  refine hG.1 [] 80 _ _ _ _ ?_
  refine ⟨by omega, fun h1 => ?_, fun h1 => ?_⟩
  · refine hG.2.1 (c_Su_copyFrom (w := w) (w' := r2)) yv_Su_copyFrom lk_Fp_124 (by decide +kernel) rfl rfl [2, 3, 93, 94] (by decide +kernel) rfl rfl rfl (Nat.le_of_ble_eq_true rfl) (fun v w2 hv hl2 => ?_)
    obtain ⟨rfl, rfl⟩ := hv
    change G _ _ _ (wFp img (z_cpy r2 w 21) ks ss n who ties su cs sz (zKs w' ks' ss' n' who' ties' su' cs' sz' (zTs b 0 p2 f2 r2 rc sh)))
    refine hG.1 [] 80 _ _ _ _ ?_
    refine hG.2.1 (c_Su_together (w := z_cpy r2 w 21)) yv_Su_together lk_Fp_88 (by decide +kernel) rfl rfl [2, 3] (by decide +kernel) rfl rfl rfl (Nat.le_of_ble_eq_true rfl) (fun v w2 hv hl2 => ?_)
    obtain ⟨rfl, rfl⟩ := hv
    change G _ _ _ (wFp img (z_cpy r2 w 21) ks ss n who ties su cs sz (zKs w' ks' ss' n' who' ties' su' cs' sz' (zTs b 0 p2 f2 r2 rc sh)))
    refine hG.1 [] 80 _ _ _ _ ?_
    exact ⟨trivial, p2, f2, r2, hQ, Or.inr ⟨h1, rfl, rfl⟩⟩
  · exact ⟨trivial, p2, f2, r2, hQ, Or.inl ⟨h1, rfl, rfl⟩⟩
theorem c_Fp_guests (ht : tn ≤ 80) (hb : ∀ j : Nat, j < tn → 32 ≤ b j ∧ b j ≤ 126) :
    zMet m_Fp_guests [.inr (.inr 0)] (wFp img w ks ss n who ties su cs sz (zKs w' ks' ss' n' who' ties' su' cs' sz' (zTs b tn tp fl rs rc sh))) (fun v wd => ∃ (p2 : Nat) (f2 : Int) (k2 s2 : Int → Int) (m2 : Nat), zTQ (zTab b tn 9 rc.1 rc.2.1 0 0) f2 k2 s2 m2 ∧
      ((f2 ≠ 0 ∧ v = some (.inl f2) ∧ wd = wFp img w ks ss n who ties su cs sz (zKs w' ks' ss' n' who' ties' su' cs' sz' (zTs b 0 p2 f2 rs (k2, (s2, (m2, rc.2.2.2))) sh))) ∨
       (f2 = 0 ∧ v = some (.inl (m2 : Int)) ∧ wd = wFp img w (z_cpy k2 ks 9) (z_cpy s2 ss 9) m2 who ties su cs 0 (zKs w' ks' ss' n' who' ties' su' cs' sz' (zTs b 0 p2 f2 rs (k2, (s2, (m2, rc.2.2.2))) sh))))) := by
  refine zMet.of (own := RX6) rfl (by decide +kernel) tk_Fp_guests fok_Fp cok_Fp (Nat.le_of_ble_eq_true rfl) (fun G hG => ?_)
  refine hG.1 [] 80 _ _ _ _ ?_
  refine hG.2.1 (c_Tp_takeGuests (b := b) (n := tn) (p := tp) (fl := fl) (ks := rc.1) (ss := rc.2.1) (m := rc.2.2.1) (who := rc.2.2.2.1) (ties := rc.2.2.2.2) ht hb) yv_Tp_takeGuests lk_Fp_128 (by decide +kernel) rfl rfl [91, 92, 95, 96, 97] (by decide +kernel) rfl rfl rfl (Nat.le_of_ble_eq_true rfl) (fun v w2 hv hl2 => ?_)
  obtain ⟨p2, f2, k2, s2, m2, rfl, rfl, hf2, hQ⟩ := hv
  change G _ _ _ (wFp img w ks ss n who ties su cs sz (zKs w' ks' ss' n' who' ties' su' cs' sz' (zTs b 0 p2 f2 rs (k2, (s2, (m2, rc.2.2.2))) sh)))
  refine hG.1 [] 80 _ _ _ _ ?_
  refine ⟨by omega, fun h1 => ?_, fun h1 => ?_⟩
  · refine hG.2.1 (c_Co_seatAll (ks := ks) (ss := ss) (n := n) (who := who) (ties := ties) (ks' := k2) (ss' := s2) (n' := m2) (who' := rc.2.2.2.1) (ties' := rc.2.2.2.2)) yv_Co_seatAll lk_Fp_132 (by decide +kernel) rfl rfl [4, 5, 6, 95, 96, 97] (by decide +kernel) rfl rfl rfl (Nat.le_of_ble_eq_true rfl) (fun v w2 hv hl2 => ?_)
    obtain ⟨rfl, rfl⟩ := hv
    change G _ _ _ (wFp img w (z_cpy k2 ks 9) (z_cpy s2 ss 9) m2 who ties su cs sz (zKs w' ks' ss' n' who' ties' su' cs' sz' (zTs b 0 p2 f2 rs (k2, (s2, (m2, rc.2.2.2))) sh)))
    refine hG.1 [] 80 _ _ _ _ ?_
    refine hG.2.1 (c_Ni_clear (su := su) (cs := cs) (sz := sz)) yv_Ni_clear lk_Fp_140 (by decide +kernel) rfl rfl (List.range' 7 39) (by decide +kernel) fn_pick rfl rfl (Nat.le_of_ble_eq_true rfl) (fun v w2 hv hl2 => ?_)
    obtain ⟨rfl, rfl⟩ := hv
    rw [fn_back]
    refine hG.1 [] 80 _ _ _ _ ?_
    refine hG.2.1 (c_Co_size (ks := z_cpy k2 ks 9) (ss := z_cpy s2 ss 9) (n := m2) (who := who) (ties := ties)) yv_Co_size lk_Fp_69 (by decide +kernel) rfl rfl [4, 5, 6] (by decide +kernel) rfl rfl rfl (Nat.le_of_ble_eq_true rfl) (fun v w2 hv hl2 => ?_)
    obtain ⟨rfl, rfl⟩ := hv
    change G _ _ _ (wFp img w (z_cpy k2 ks 9) (z_cpy s2 ss 9) m2 who ties su cs 0 (zKs w' ks' ss' n' who' ties' su' cs' sz' (zTs b 0 p2 f2 rs (k2, (s2, (m2, rc.2.2.2))) sh)))
    refine hG.1 [] 80 _ _ _ _ ?_
    exact ⟨trivial, p2, f2, k2, s2, m2, hQ, Or.inr ⟨h1, rfl, rfl⟩⟩
  · exact ⟨trivial, p2, f2, k2, s2, m2, hQ, Or.inl ⟨h1, rfl, rfl⟩⟩
theorem sh_pick : ∀ i : Nat, i < 4 → [99 + 2 * i, 99 + 2 * i + 1].map (z_g (wFp img w ks ss n who ties su cs sz (zKs w' ks' ss' n' who' ties' su' cs' sz' (zTs b tn tp fl rs rc sh)))) = (wSh (sh i).1 (sh i).2.1 (sh i).2.2).map (fun c => some (z_ren [99 + 2 * i, 99 + 2 * i + 1] c))
  | 0, _ => rfl
  | 1, _ => rfl
  | 2, _ => rfl
  | 3, _ => rfl
  | i + 4, h => absurd h (by omega)
theorem sh_put (s : zSD) : ∀ i : Nat, i < 4 → z_sct [99 + 2 * i, 99 + 2 * i + 1] [99 + 2 * i, 99 + 2 * i + 1] (wSh s.1 s.2.1 s.2.2) (wFp img w ks ss n who ties su cs sz (zKs w' ks' ss' n' who' ties' su' cs' sz' (zTs b tn tp fl rs rc sh))) = wFp img w ks ss n who ties su cs sz (zKs w' ks' ss' n' who' ties' su' cs' sz' (zTs b tn tp fl rs rc (z_us sh i s)))
  | 0, _ => rfl
  | 1, _ => rfl
  | 2, _ => rfl
  | 3, _ => rfl
  | i + 4, h => absurd h (by omega)
theorem z_us_self (i : Nat) : z_us sh i (sh i) = sh := by
  funext k; unfold z_us; by_cases h : k = i
  · rw [if_pos h, h]
  · rw [if_neg h]
theorem sh_back (i : Nat) (h : i < 4) : z_sct [99 + 2 * i, 99 + 2 * i + 1] [99 + 2 * i, 99 + 2 * i + 1] (wSh (sh i).1 (sh i).2.1 (sh i).2.2) (wFp img w ks ss n who ties su cs sz (zKs w' ks' ss' n' who' ties' su' cs' sz' (zTs b tn tp fl rs rc sh))) = wFp img w ks ss n who ties su cs sz (zKs w' ks' ss' n' who' ties' su' cs' sz' (zTs b tn tp fl rs rc sh)) := by
  have e := sh_put (img := img) (w := w) (ks := ks) (ss := ss) (n := n) (who := who) (ties := ties) (su := su) (cs := cs) (sz := sz) (w' := w') (ks' := ks') (ss' := ss') (n' := n') (who' := who') (ties' := ties') (su' := su') (cs' := cs') (sz' := sz') (b := b) (tn := tn) (tp := tp) (fl := fl) (rs := rs) (rc := rc) (sh := sh) (sh i) i h
  rw [z_us_self] at e
  exact e
theorem z_nd2 (i : Nat) : [99 + 2 * i, 99 + 2 * i + 1].Nodup := by simp
def zOkH (s : zSD) : Prop := (0 ≤ s.2.1 ∧ s.2.1 ≤ 2) ∧ (-1 ≤ s.2.2 ∧ s.2.2 ≤ 24) ∧ ∀ j : Int, -9223372036854775808 ≤ s.1 j ∧ s.1 j ≤ 9223372036854775807
theorem c_Fp_sheet {x l y : Int} (hx : -2147483648 ≤ x ∧ x ≤ 2147483647) (hl : -2147483648 ≤ l ∧ l ≤ 2147483647) (hy : -2147483648 ≤ y ∧ y ≤ 2147483647) :
    zMet m_Fp_sheet [.inr (.inr 0), .inl x, .inl l, .inl y] (wFp img w ks ss n who ties su cs sz (zKs w' ks' ss' n' who' ties' su' cs' sz' (zTs b tn tp fl rs rc sh))) (fun v wd =>
      (((0 ≤ x ∧ x < 4) ∧ (0 ≤ l ∧ l ≤ 2) ∧ y ≤ 24) ∧ 0 ≤ y ∧ v = some (.inl y) ∧ wd = wFp img w ks ss n who ties su cs sz (zKs w' ks' ss' n' who' ties' su' cs' sz' (zTs b tn tp fl rs rc (z_us sh x.toNat (zFill (sh x.toNat).1 24, (l, y)))))) ∨
      (((0 ≤ x ∧ x < 4) ∧ (0 ≤ l ∧ l ≤ 2) ∧ y ≤ 24) ∧ y < 0 ∧ v = some (.inl (-14)) ∧ wd = wFp img w ks ss n who ties su cs sz (zKs w' ks' ss' n' who' ties' su' cs' sz' (zTs b tn tp fl rs rc sh))) ∨
      (¬ ((0 ≤ x ∧ x < 4) ∧ (0 ≤ l ∧ l ≤ 2) ∧ y ≤ 24) ∧ v = some (.inl (-1)) ∧ wd = wFp img w ks ss n who ties su cs sz (zKs w' ks' ss' n' who' ties' su' cs' sz' (zTs b tn tp fl rs rc sh)))) := by
  refine zMet.of (own := RX6) rfl (by decide +kernel) tk_Fp_sheet fok_Fp cok_Fp (Nat.le_of_ble_eq_true rfl) (fun G hG => ?_)
  refine hG.1 [] 80 _ _ _ _ ?_
  refine hG.2.2.1 (c_Fp_isSheet hx) ys_Fp_isSheet (Or.inl lk_Fp_221) (by decide +kernel) rfl [] (by decide +kernel) rfl rfl rfl (Nat.le_of_ble_eq_true rfl) (fun v w2 hv hl2 => ?_)
  obtain ⟨⟨hc, rfl⟩ | ⟨hc, rfl⟩, rfl⟩ := hv
  · refine hG.1 [] 80 _ _ _ _ ?_
    refine ⟨by omega, fun h1 => absurd h1 (by omega), fun h1 => ?_⟩
    refine hG.2.2.1 (c_Fp_isLane hl) ys_Fp_isLane (Or.inl lk_Fp_224) (by decide +kernel) rfl [] (by decide +kernel) rfl rfl rfl (Nat.le_of_ble_eq_true rfl) (fun v w2 hv hl2 => ?_)
    obtain ⟨⟨hc2, rfl⟩ | ⟨hc2, rfl⟩, rfl⟩ := hv
    · refine hG.1 [] 80 _ _ _ _ ?_
      refine ⟨by omega, fun h2 => absurd h2 (by omega), fun h2 => ?_⟩
      refine ⟨by omega, fun h3 => ?_, fun h3 => ?_⟩
      · refine ⟨by omega, fun h4 => ?_, fun h4 => ?_⟩
        · obtain ⟨i, rfl⟩ := z_nat hc.1
          rw [Int.toNat_natCast]
          refine ⟨by omega, ?_⟩
          refine hG.2.1 (c_Sh_begin (it := (sh i).1) (lane := (sh i).2.1) (size := (sh i).2.2) (l' := l) (n := y)) yv_Sh_begin lk_Fp_240 (by decide +kernel) rfl rfl [99 + 2 * i, 99 + 2 * i + 1] (z_nd2 i) (sh_pick i (by omega)) rfl rfl (Nat.le_of_ble_eq_true rfl) (fun v w2 hv hl2 => ?_)
          obtain ⟨rfl, rfl⟩ := hv
          rw [sh_put (zFill (sh i).1 24, (l, y)) i (by omega)]
          refine hG.1 [] 80 _ _ _ _ ?_
          exact ⟨trivial, Or.inl ⟨⟨hc, hc2, h3⟩, h4, rfl, rfl⟩⟩
        · exact ⟨trivial, Or.inr (Or.inl ⟨⟨hc, hc2, h3⟩, h4, rfl, rfl⟩)⟩
      · exact ⟨trivial, Or.inr (Or.inr ⟨fun z => by have := z.2.2; omega, rfl, rfl⟩)⟩
    · refine hG.1 [] 80 _ _ _ _ ?_
      refine ⟨by omega, fun h2 => ?_, fun h2 => absurd rfl h2⟩
      exact ⟨trivial, Or.inr (Or.inr ⟨fun z => hc2 z.2.1, rfl, rfl⟩)⟩
  · refine hG.1 [] 80 _ _ _ _ ?_
    refine ⟨by omega, fun h1 => ?_, fun h1 => absurd rfl h1⟩
    exact ⟨trivial, Or.inr (Or.inr ⟨fun z => hc z.1, rfl, rfl⟩)⟩
theorem c_Fp_drop {x : Int} (hx : -2147483648 ≤ x ∧ x ≤ 2147483647) (hH : ∀ i : Nat, i < 4 → zOkH (sh i)) :
    zMet m_Fp_drop [.inr (.inr 0), .inl x] (wFp img w ks ss n who ties su cs sz (zKs w' ks' ss' n' who' ties' su' cs' sz' (zTs b tn tp fl rs rc sh))) (fun v wd =>
      ((0 ≤ x ∧ x < 4) ∧ (sh x.toNat).2.2 ≠ -1 ∧ v = some (.inl (sh x.toNat).2.2) ∧ wd = wFp img w ks ss n who ties su cs sz (zKs w' ks' ss' n' who' ties' su' cs' sz' (zTs b tn tp fl rs rc (z_us sh x.toNat ((sh x.toNat).1, ((sh x.toNat).2.1, -1)))))) ∨
      ((0 ≤ x ∧ x < 4) ∧ (sh x.toNat).2.2 = -1 ∧ v = some (.inl (-11)) ∧ wd = wFp img w ks ss n who ties su cs sz (zKs w' ks' ss' n' who' ties' su' cs' sz' (zTs b tn tp fl rs rc sh))) ∨
      (¬ (0 ≤ x ∧ x < 4) ∧ v = some (.inl (-1)) ∧ wd = wFp img w ks ss n who ties su cs sz (zKs w' ks' ss' n' who' ties' su' cs' sz' (zTs b tn tp fl rs rc sh)))) := by
  refine zMet.of (own := RX6) rfl (by decide +kernel) tk_Fp_drop fok_Fp cok_Fp (Nat.le_of_ble_eq_true rfl) (fun G hG => ?_)
  refine hG.1 [] 80 _ _ _ _ ?_
  refine hG.2.2.1 (c_Fp_isSheet hx) ys_Fp_isSheet (Or.inl lk_Fp_221) (by decide +kernel) rfl [] (by decide +kernel) rfl rfl rfl (Nat.le_of_ble_eq_true rfl) (fun v w2 hv hl2 => ?_)
  obtain ⟨⟨hc, rfl⟩ | ⟨hc, rfl⟩, rfl⟩ := hv
  · refine hG.1 [] 80 _ _ _ _ ?_
    refine ⟨by omega, fun h1 => ?_, fun h1 => absurd h1 (by omega)⟩
    obtain ⟨i, rfl⟩ := z_nat hc.1
    rw [Int.toNat_natCast]
    have hi := hH i (by omega)
    refine ⟨by omega, ?_⟩
    refine hG.2.1 (c_Sh_isMissing (it := (sh i).1) (lane := (sh i).2.1) (size := (sh i).2.2) hi.2.1) yv_Sh_isMissing lk_Fp_243 (by decide +kernel) rfl rfl [99 + 2 * i, 99 + 2 * i + 1] (z_nd2 i) (sh_pick i (by omega)) rfl rfl (Nat.le_of_ble_eq_true rfl) (fun v w2 hv hl2 => ?_)
    rw [hv.2, sh_back i (by omega)]
    rcases hv.1 with ⟨hc2, rfl⟩ | ⟨hc2, rfl⟩
    · refine hG.1 [] 80 _ _ _ _ ?_
      refine ⟨by omega, fun h2 => absurd h2 (by omega), fun h2 => ?_⟩
      exact ⟨trivial, Or.inr (Or.inl ⟨hc, hc2, rfl, rfl⟩)⟩
    · refine hG.1 [] 80 _ _ _ _ ?_
      refine ⟨by omega, fun h2 => ?_, fun h2 => absurd rfl h2⟩
      refine hG.2.1 (c_Sh_size (it := (sh i).1) (lane := (sh i).2.1) (size := (sh i).2.2)) yv_Sh_size lk_Fp_246 (by decide +kernel) rfl rfl [99 + 2 * i, 99 + 2 * i + 1] (z_nd2 i) (sh_pick i (by omega)) rfl rfl (Nat.le_of_ble_eq_true rfl) (fun v w2 hv hl2 => ?_)
      obtain ⟨rfl, rfl⟩ := hv
      rw [sh_back i (by omega)]
      refine hG.1 [] 80 _ _ _ _ ?_
      refine hG.2.1 (c_Sh_end (it := (sh i).1) (lane := (sh i).2.1) (size := (sh i).2.2)) yv_Sh_end lk_Fp_247 (by decide +kernel) rfl rfl [99 + 2 * i, 99 + 2 * i + 1] (z_nd2 i) (sh_pick i (by omega)) rfl rfl (Nat.le_of_ble_eq_true rfl) (fun v w2 hv hl2 => ?_)
      obtain ⟨rfl, rfl⟩ := hv
      rw [sh_put ((sh i).1, ((sh i).2.1, -1)) i (by omega)]
      refine hG.1 [] 80 _ _ _ _ ?_
      exact ⟨trivial, Or.inl ⟨hc, hc2, rfl, rfl⟩⟩
  · refine hG.1 [] 80 _ _ _ _ ?_
    refine ⟨by omega, fun h1 => absurd rfl h1, fun h1 => ?_⟩
    exact ⟨trivial, Or.inr (Or.inr ⟨hc, rfl, rfl⟩)⟩
end Fw
end
section
/-! FARTHESTPAYS: item, film, mixed -/
def zFilm (it : Int → Int) (fr : Int) (ss : Int → Int) (lane : Int) : Nat → (Int → Int)
  | 0 => it
  | k + 1 => z_u (zFilm it fr ss lane k) (fr + k) (zNar lane (ss k))
theorem zRef_0 {lane size a f n : Int} (h : zRef lane size a f n = 0) : size ≠ -1 ∧ a = lane ∧ 0 ≤ f ∧ f ≤ size - n := by
  unfold zRef at h
  split at h
  · omega
  · split at h
    · omega
    · split at h
      · omega
      · rename_i h1 h2 h3; exact ⟨h1, Classical.not_not.mp h2, by omega, by omega⟩
theorem zRef_in (lane size a f n : Int) : -13 ≤ zRef lane size a f n ∧ zRef lane size a f n ≤ 0 := by
  unfold zRef; repeat' split
  all_goals omega
theorem z_us_us {sh : Nat → zSD} {i : Nat} {s t : zSD} : z_us (z_us sh i s) i t = z_us sh i t := by
  funext k; unfold z_us; by_cases h : k = i
  · rw [if_pos h, if_pos h]
  · rw [if_neg h, if_neg h, if_neg h]
theorem z_us_at {sh : Nat → zSD} {i : Nat} {s : zSD} : z_us sh i s i = s := by unfold z_us; rw [if_pos rfl]
section Fx
variable {img : Int} {w ks ss : Int → Int} {n : Nat} {who ties : Int} {su : Int → Int} {cs : Nat → zCD} {sz : Nat} {w' ks' ss' : Int → Int} {n' : Nat} {who' ties' : Int} {su' : Int → Int} {cs' : Nat → zCD} {sz' : Nat} {b : Int → Int} {tn tp : Nat} {fl : Int} {rs : Int → Int} {rc : zCD} {sh : Nat → zSD}
theorem c_Fp_item {x l y u : Int} (hx : -2147483648 ≤ x ∧ x ≤ 2147483647) (hl : -2147483648 ≤ l ∧ l ≤ 2147483647) (hy : -2147483648 ≤ y ∧ y ≤ 2147483647) (hH : ∀ i : Nat, i < 4 → zOkH (sh i)) :
    zMet m_Fp_item [.inr (.inr 0), .inl x, .inl l, .inl y, .inr (.inl u)] (wFp img w ks ss n who ties su cs sz (zKs w' ks' ss' n' who' ties' su' cs' sz' (zTs b tn tp fl rs rc sh))) (fun v wd =>
      (((0 ≤ x ∧ x < 4) ∧ (0 ≤ l ∧ l ≤ 2)) ∧ zRef (sh x.toNat).2.1 (sh x.toNat).2.2 l y 1 = 0 ∧ v = some (.inl 1) ∧ wd = wFp img w ks ss n who ties su cs sz (zKs w' ks' ss' n' who' ties' su' cs' sz' (zTs b tn tp fl rs rc (z_us sh x.toNat (z_u (sh x.toNat).1 y (zNar (sh x.toNat).2.1 u), (sh x.toNat).2))))) ∨
      (((0 ≤ x ∧ x < 4) ∧ (0 ≤ l ∧ l ≤ 2)) ∧ zRef (sh x.toNat).2.1 (sh x.toNat).2.2 l y 1 ≠ 0 ∧ v = some (.inl (zRef (sh x.toNat).2.1 (sh x.toNat).2.2 l y 1)) ∧ wd = wFp img w ks ss n who ties su cs sz (zKs w' ks' ss' n' who' ties' su' cs' sz' (zTs b tn tp fl rs rc sh))) ∨
      (¬ ((0 ≤ x ∧ x < 4) ∧ (0 ≤ l ∧ l ≤ 2)) ∧ v = some (.inl (-1)) ∧ wd = wFp img w ks ss n who ties su cs sz (zKs w' ks' ss' n' who' ties' su' cs' sz' (zTs b tn tp fl rs rc sh)))) := by
  refine zMet.of (own := RX6) rfl (by decide +kernel) tk_Fp_item fok_Fp cok_Fp (Nat.le_of_ble_eq_true rfl) (fun G hG => ?_)
  refine hG.1 [] 80 _ _ _ _ ?_
  refine hG.2.2.1 (c_Fp_isSheet hx) ys_Fp_isSheet (Or.inl lk_Fp_221) (by decide +kernel) rfl [] (by decide +kernel) rfl rfl rfl (Nat.le_of_ble_eq_true rfl) (fun v w2 hv hl2 => ?_)
  obtain ⟨⟨hc, rfl⟩ | ⟨hc, rfl⟩, rfl⟩ := hv
  · refine hG.1 [] 80 _ _ _ _ ?_
    refine ⟨by omega, fun h1 => absurd h1 (by omega), fun h1 => ?_⟩
    refine hG.2.2.1 (c_Fp_isLane hl) ys_Fp_isLane (Or.inl lk_Fp_224) (by decide +kernel) rfl [] (by decide +kernel) rfl rfl rfl (Nat.le_of_ble_eq_true rfl) (fun v w2 hv hl2 => ?_)
    obtain ⟨⟨hc2, rfl⟩ | ⟨hc2, rfl⟩, rfl⟩ := hv
    · refine hG.1 [] 80 _ _ _ _ ?_
      refine ⟨by omega, fun h2 => ?_, fun h2 => absurd h2 (by omega)⟩
      obtain ⟨i, rfl⟩ := z_nat hc.1
      rw [Int.toNat_natCast]
      have hi := hH i (by omega)
      have hrin := zRef_in (sh i).2.1 (sh i).2.2 l y 1
      refine ⟨by omega, ?_⟩
      refine hG.2.1 (c_Sh_refusal (it := (sh i).1) (lane := (sh i).2.1) (size := (sh i).2.2) (a := l) (f := y) (n := 1) hi.2.1 hi.1 hl hy (by omega)) yv_Sh_refusal lk_Fp_227 (by decide +kernel) rfl rfl [99 + 2 * i, 99 + 2 * i + 1] (z_nd2 i) (sh_pick i (by omega)) rfl rfl (Nat.le_of_ble_eq_true rfl) (fun v w2 hv hl2 => ?_)
      obtain ⟨rfl, rfl⟩ := hv
      rw [sh_back i (by omega)]
      refine hG.1 [] 80 _ _ _ _ ?_
      refine ⟨by omega, fun h3 => ?_, fun h3 => ?_⟩
      · have h4 := zRef_0 h3
        refine ⟨by omega, ?_⟩
        refine hG.2.1 (c_Sh_put (it := (sh i).1) (lane := (sh i).2.1) (size := (sh i).2.2) (i := y) (v0 := u) hi.2.1.2 hi.1 (by omega)) yv_Sh_put lk_Fp_250 (by decide +kernel) rfl rfl [99 + 2 * i, 99 + 2 * i + 1] (z_nd2 i) (sh_pick i (by omega)) rfl rfl (Nat.le_of_ble_eq_true rfl) (fun v w2 hv hl2 => ?_)
        obtain ⟨rfl, rfl⟩ := hv
        rw [sh_put (z_u (sh i).1 y (zNar (sh i).2.1 u), (sh i).2) i (by omega)]
        refine hG.1 [] 80 _ _ _ _ ?_
        exact ⟨trivial, Or.inl ⟨⟨hc, hc2⟩, h3, rfl, rfl⟩⟩
      · exact ⟨trivial, Or.inr (Or.inl ⟨⟨hc, hc2⟩, h3, rfl, rfl⟩)⟩
    · refine hG.1 [] 80 _ _ _ _ ?_
      refine ⟨by omega, fun h2 => absurd rfl h2, fun h2 => ?_⟩
      exact ⟨trivial, Or.inr (Or.inr ⟨fun z => hc2 z.2, rfl, rfl⟩)⟩
  · refine hG.1 [] 80 _ _ _ _ ?_
    refine ⟨by omega, fun h1 => ?_, fun h1 => absurd rfl h1⟩
    exact ⟨trivial, Or.inr (Or.inr ⟨fun z => hc z.1, rfl, rfl⟩)⟩
theorem c_Fp_film {x l y : Int} (hx : -2147483648 ≤ x ∧ x ≤ 2147483647) (hl : -2147483648 ≤ l ∧ l ≤ 2147483647) (hy : -2147483648 ≤ y ∧ y ≤ 2147483647) (hn : n ≤ 9) (hS : zOkS ss n) (hH : ∀ i : Nat, i < 4 → zOkH (sh i)) :
    zMet m_Fp_film [.inr (.inr 0), .inl x, .inl l, .inl y] (wFp img w ks ss n who ties su cs sz (zKs w' ks' ss' n' who' ties' su' cs' sz' (zTs b tn tp fl rs rc sh))) (fun v wd =>
      (((0 ≤ x ∧ x < 4) ∧ (0 ≤ l ∧ l ≤ 2)) ∧ zRef (sh x.toNat).2.1 (sh x.toNat).2.2 l y n = 0 ∧ v = some (.inl (n : Int)) ∧ wd = wFp img w ks ss n who ties su cs sz (zKs w' ks' ss' n' who' ties' su' cs' sz' (zTs b tn tp fl rs rc (z_us sh x.toNat (zFilm (sh x.toNat).1 y ss (sh x.toNat).2.1 n, (sh x.toNat).2))))) ∨
      (((0 ≤ x ∧ x < 4) ∧ (0 ≤ l ∧ l ≤ 2)) ∧ zRef (sh x.toNat).2.1 (sh x.toNat).2.2 l y n ≠ 0 ∧ v = some (.inl (zRef (sh x.toNat).2.1 (sh x.toNat).2.2 l y n)) ∧ wd = wFp img w ks ss n who ties su cs sz (zKs w' ks' ss' n' who' ties' su' cs' sz' (zTs b tn tp fl rs rc sh))) ∨
      (¬ ((0 ≤ x ∧ x < 4) ∧ (0 ≤ l ∧ l ≤ 2)) ∧ v = some (.inl (-1)) ∧ wd = wFp img w ks ss n who ties su cs sz (zKs w' ks' ss' n' who' ties' su' cs' sz' (zTs b tn tp fl rs rc sh)))) := by
  refine zMet.of (own := RX6) rfl (by decide +kernel) tk_Fp_film fok_Fp cok_Fp (Nat.le_of_ble_eq_true rfl) (fun G hG => ?_)
  refine hG.1 [] 80 _ _ _ _ ?_
  refine hG.2.2.1 (c_Fp_isSheet hx) ys_Fp_isSheet (Or.inl lk_Fp_221) (by decide +kernel) rfl [] (by decide +kernel) rfl rfl rfl (Nat.le_of_ble_eq_true rfl) (fun v w2 hv hl2 => ?_)
  obtain ⟨⟨hc, rfl⟩ | ⟨hc, rfl⟩, rfl⟩ := hv
  · refine hG.1 [] 80 _ _ _ _ ?_
    refine ⟨by omega, fun h1 => absurd h1 (by omega), fun h1 => ?_⟩
    refine hG.2.2.1 (c_Fp_isLane hl) ys_Fp_isLane (Or.inl lk_Fp_224) (by decide +kernel) rfl [] (by decide +kernel) rfl rfl rfl (Nat.le_of_ble_eq_true rfl) (fun v w2 hv hl2 => ?_)
    obtain ⟨⟨hc2, rfl⟩ | ⟨hc2, rfl⟩, rfl⟩ := hv
    · refine hG.1 [] 80 _ _ _ _ ?_
      refine ⟨by omega, fun h2 => ?_, fun h2 => absurd h2 (by omega)⟩
      obtain ⟨i, rfl⟩ := z_nat hc.1
      rw [Int.toNat_natCast]
      have hi := hH i (by omega)
      have hrin := zRef_in (sh i).2.1 (sh i).2.2 l y n
      refine hG.2.1 (c_Co_size ) yv_Co_size lk_Fp_69 (by decide +kernel) rfl rfl [4, 5, 6] (by decide +kernel) rfl rfl rfl (Nat.le_of_ble_eq_true rfl) (fun v w2 hv hl2 => ?_)
      obtain ⟨rfl, rfl⟩ := hv
      change G _ _ _ (wFp img w ks ss n who ties su cs sz (zKs w' ks' ss' n' who' ties' su' cs' sz' (zTs b tn tp fl rs rc sh)))
      refine hG.1 [] 80 _ _ _ _ ?_
      refine ⟨by omega, ?_⟩
      refine hG.2.1 (c_Sh_refusal (it := (sh i).1) (lane := (sh i).2.1) (size := (sh i).2.2) (a := l) (f := y) (n := n) hi.2.1 hi.1 hl hy (by omega)) yv_Sh_refusal lk_Fp_227 (by decide +kernel) rfl rfl [99 + 2 * i, 99 + 2 * i + 1] (z_nd2 i) (sh_pick i (by omega)) rfl rfl (Nat.le_of_ble_eq_true rfl) (fun v w2 hv hl2 => ?_)
      obtain ⟨rfl, rfl⟩ := hv
      rw [sh_back i (by omega)]
      refine hG.1 [54] 80 _ _ _ _ ?_
      refine ⟨by omega, fun h3 => ?_, fun h3 => ?_⟩
      · have h4 := zRef_0 h3
        have start : G 54 [(0, .inr (.inr 0)), (1, .inl (i : Int)), (2, .inl l), (3, .inl y), (4, .inl (n : Int)), (5, .inl (zRef (sh i).2.1 (sh i).2.2 l y n)), (6, .inl ((0 : Nat) : Int))] [] (wFp img w ks ss n who ties su cs sz (zKs w' ks' ss' n' who' ties' su' cs' sz' (zTs b tn tp fl rs rc (z_us sh i (zFilm (sh i).1 y ss (sh i).2.1 0, (sh i).2))))) := by
          refine z_up0 (n := n) (P := fun g : Nat => G 54 [(0, .inr (.inr 0)), (1, .inl (i : Int)), (2, .inl l), (3, .inl y), (4, .inl (n : Int)), (5, .inl (zRef (sh i).2.1 (sh i).2.2 l y n)), (6, .inl (g : Int))] [] (wFp img w ks ss n who ties su cs sz (zKs w' ks' ss' n' who' ties' su' cs' sz' (zTs b tn tp fl rs rc (z_us sh i (zFilm (sh i).1 y ss (sh i).2.1 g, (sh i).2)))))) ?_ (fun g hg ih => ?_)
          · refine hG.1 [] 80 _ _ _ _ ?_
            refine ⟨by omega, fun q => ?_, fun q => absurd q (by omega)⟩
            exact ⟨trivial, Or.inl ⟨⟨hc, hc2⟩, h3, rfl, rfl⟩⟩
          · have hsg := hS g hg
            refine hG.1 [54] 80 _ _ _ _ ?_
            refine ⟨by omega, fun q => absurd q (by omega), fun q => ?_⟩
            refine ⟨by omega, ?_⟩
            refine hG.2.1 (c_Co_slipOf (g := g) hg hn) yv_Co_slipOf lk_Fp_82 (by decide +kernel) rfl rfl [4, 5, 6] (by decide +kernel) rfl rfl rfl (Nat.le_of_ble_eq_true rfl) (fun v w2 hv hl2 => ?_)
            obtain ⟨rfl, rfl⟩ := hv
            change G _ _ _ (wFp img w ks ss n who ties su cs sz (zKs w' ks' ss' n' who' ties' su' cs' sz' (zTs b tn tp fl rs rc (z_us sh i (zFilm (sh i).1 y ss (sh i).2.1 g, (sh i).2)))))
            refine hG.1 [54] 80 _ _ _ _ ?_
            refine ⟨by omega, ?_⟩
            have hpk := sh_pick (img := img) (w := w) (ks := ks) (ss := ss) (n := n) (who := who) (ties := ties) (su := su) (cs := cs) (sz := sz) (w' := w') (ks' := ks') (ss' := ss') (n' := n') (who' := who') (ties' := ties') (su' := su') (cs' := cs') (sz' := sz') (b := b) (tn := tn) (tp := tp) (fl := fl) (rs := rs) (rc := rc) (sh := z_us sh i (zFilm (sh i).1 y ss (sh i).2.1 g, (sh i).2)) i (by omega)
            rw [z_us_at] at hpk
            refine hG.2.1 (c_Sh_put (it := zFilm (sh i).1 y ss (sh i).2.1 g) (lane := (sh i).2.1) (size := (sh i).2.2) (i := y + g) (v0 := ss g) hi.2.1.2 hi.1 (by omega)) yv_Sh_put lk_Fp_250 (by decide +kernel) rfl rfl [99 + 2 * i, 99 + 2 * i + 1] (z_nd2 i) hpk rfl rfl (Nat.le_of_ble_eq_true rfl) (fun v w2 hv hl2 => ?_)
            obtain ⟨rfl, rfl⟩ := hv
            rw [sh_put (z_u (zFilm (sh i).1 y ss (sh i).2.1 g) (y + g) (zNar (sh i).2.1 (ss g)), (sh i).2) i (by omega), z_us_us]
            refine hG.1 [54] 80 _ _ _ _ ?_
            exact ih
        have e0 : z_us sh i (zFilm (sh i).1 y ss (sh i).2.1 0, (sh i).2) = sh := z_us_self i
        rw [e0] at start
        exact start
      · exact ⟨trivial, Or.inr (Or.inl ⟨⟨hc, hc2⟩, h3, rfl, rfl⟩)⟩
    · refine hG.1 [] 80 _ _ _ _ ?_
      refine ⟨by omega, fun h2 => absurd rfl h2, fun h2 => ?_⟩
      exact ⟨trivial, Or.inr (Or.inr ⟨fun z => hc2 z.2, rfl, rfl⟩)⟩
  · refine hG.1 [] 80 _ _ _ _ ?_
    refine ⟨by omega, fun h1 => ?_, fun h1 => absurd rfl h1⟩
    exact ⟨trivial, Or.inr (Or.inr ⟨fun z => hc z.1, rfl, rfl⟩)⟩
end Fx
end
section
/-! FARTHESTPAYS: mixed -/
def zWtS (it : Int → Int) (fr : Int) : Nat → Int
  | 0 => 0
  | k + 1 => zWtS it fr k + it (fr + k)
theorem zWt_run {it : Int → Int} {fr : Int} : ∀ (d i : Nat) (acc : Int), (∀ k : Nat, i ≤ k → k < i + d → 0 ≤ it (fr + k) ∧ it (fr + k) ≤ 99) → zWtN it fr i d acc = acc + (zWtS it fr (i + d) - zWtS it fr i)
  | 0, i, acc, _ => by show acc = _; rw [Nat.add_zero]; omega
  | d + 1, i, acc, h => by
    have h1 := h i (Nat.le_refl i) (by omega)
    have h2 := zWt_run (it := it) (fr := fr) d (i + 1) (acc + it (fr + i)) (fun k h3 h4 => h k (by omega) (by omega))
    have h3 : zWtS it fr (i + 1) = zWtS it fr i + it (fr + i) := rfl
    unfold zWtN
    rw [if_neg (by omega), h2, show i + 1 + d = i + (d + 1) by omega, h3]
    omega
theorem zWt_bad {it : Int → Int} {fr : Int} : ∀ (d i : Nat) (acc : Int), (∃ k : Nat, i ≤ k ∧ k < i + d ∧ ¬ (0 ≤ it (fr + k) ∧ it (fr + k) ≤ 99)) → zWtN it fr i d acc = -1
  | 0, i, acc, ⟨k, h1, h2, _⟩ => by omega
  | d + 1, i, acc, ⟨k, h1, h2, h3⟩ => by
    unfold zWtN
    by_cases hb : it (fr + i) < 0 ∨ 99 < it (fr + i)
    · rw [if_pos hb]
    · rw [if_neg hb]
      refine zWt_bad d (i + 1) _ ⟨k, ?_, by omega, h3⟩
      rcases Nat.eq_or_lt_of_le h1 with rfl | h
      · exact absurd (by omega) h3
      · exact h
def zAllW (it : Int → Int) (fr : Int) (m : Nat) : Prop := ∀ k : Nat, k < m → 0 ≤ it (fr + k) ∧ it (fr + k) ≤ 99
theorem zWtS_in {it : Int → Int} {fr : Int} : ∀ {m : Nat}, zAllW it fr m → 0 ≤ zWtS it fr m ∧ zWtS it fr m ≤ 99 * (m : Int)
  | 0, _ => by show 0 ≤ (0 : Int) ∧ (0 : Int) ≤ _; omega
  | m + 1, h => by
    have h1 := zWtS_in (m := m) (fun k hk => h k (by omega))
    have h2 := h m (by omega)
    have h3 : zWtS it fr (m + 1) = zWtS it fr m + it (fr + m) := rfl
    omega
theorem zWt_eq {it : Int → Int} {fr : Int} {m : Nat} (h : zAllW it fr m) : zWtN it fr 0 m 0 = zWtS it fr m := by
  rw [zWt_run m 0 0 (fun k _ h2 => h k (by omega)), Nat.zero_add]
  show 0 + (_ - 0) = _
  omega
theorem zWt_neg {it : Int → Int} {fr : Int} {m : Nat} (h : ¬ zAllW it fr m) : zWtN it fr 0 m 0 = -1 := by
  refine zWt_bad m 0 0 (Classical.byContradiction fun z => h (fun k hk => Classical.byContradiction fun q => z ⟨k, Nat.zero_le k, by omega, q⟩))
noncomputable def zMxN (it : Int → Int) (fr : Int) (f : Nat → Int) : Nat → Int
  | 0 => 0
  | k + 1 => zMxN it fr f k + (if 0 < it (fr + k) then it (fr + k) * f k else 0)
theorem zMxN_in {it : Int → Int} {fr : Int} {f : Nat → Int} (hf : ∀ k, 0 ≤ f k ∧ f k ≤ 200000000) : ∀ {m : Nat}, zAllW it fr m → 0 ≤ zMxN it fr f m ∧ zMxN it fr f m ≤ 19800000000 * (m : Int)
  | 0, _ => by show 0 ≤ (0 : Int) ∧ (0 : Int) ≤ _; omega
  | m + 1, h => by
    have h1 := zMxN_in hf (m := m) (fun k hk => h k (by omega))
    have h2 := h m (by omega)
    have h3 : zMxN it fr f (m + 1) = zMxN it fr f m + (if 0 < it (fr + m) then it (fr + m) * f m else 0) := rfl
    have h4 := hf m
    have h5 : 0 ≤ it (fr + m) * f m := Int.mul_nonneg h2.1 h4.1
    have h6 : it (fr + m) * f m ≤ 99 * 200000000 := Int.mul_le_mul h2.2 h4.2 h4.1 (by omega)
    rw [h3]
    split <;> omega
section Fy
variable {img : Int} {w ks ss : Int → Int} {n : Nat} {who ties : Int} {su : Int → Int} {cs : Nat → zCD} {sz : Nat} {w' ks' ss' : Int → Int} {n' : Nat} {who' ties' : Int} {su' : Int → Int} {cs' : Nat → zCD} {sz' : Nat} {b : Int → Int} {tn tp : Nat} {fl : Int} {rs : Int → Int} {rc : zCD} {sh : Nat → zSD}
theorem c_Fp_mixed {g x l y m part : Int} (hg : -2147483648 ≤ g ∧ g ≤ 2147483647) (hx : -2147483648 ≤ x ∧ x ≤ 2147483647) (hl : -2147483648 ≤ l ∧ l ≤ 2147483647) (hy : -2147483648 ≤ y ∧ y ≤ 2147483647) (hm : -2147483648 ≤ m ∧ m ≤ 2147483647) (hp : -2147483648 ≤ part ∧ part ≤ 2147483647)
    (hL : zOkL n who ties) (hS : zOkS ss n) (hW : zOkW w) (hH : ∀ i : Nat, i < 4 → zOkH (sh i)) :
    zMet m_Fp_mixed [.inr (.inr 0), .inl g, .inl x, .inl l, .inl y, .inl m, .inl part] (wFp img w ks ss n who ties su cs sz (zKs w' ks' ss' n' who' ties' su' cs' sz' (zTs b tn tp fl rs rc sh))) (fun v wd =>
      ((((0 ≤ g ∧ g < n) ∧ (0 ≤ x ∧ x < 4) ∧ (0 ≤ l ∧ l ≤ 2) ∧ (1 ≤ m ∧ m ≤ 21) ∧ (part = 0 ∨ part = 1)) ∧
        ((zRef (sh x.toNat).2.1 (sh x.toNat).2.2 l y m ≠ 0 ∧ v = some (.inr (.inl (zRef (sh x.toNat).2.1 (sh x.toNat).2.2 l y m)))) ∨
         (zRef (sh x.toNat).2.1 (sh x.toNat).2.2 l y m = 0 ∧ (¬ zAllW (sh x.toNat).1 y m.toNat ∨ zWtS (sh x.toNat).1 y m.toNat = 0 ∨ zSumN w 21 = 0) ∧ v = some (.inr (.inl (-2)))) ∨
         (zRef (sh x.toNat).2.1 (sh x.toNat).2.2 l y m = 0 ∧ (zAllW (sh x.toNat).1 y m.toNat ∧ zWtS (sh x.toNat).1 y m.toNat ≠ 0 ∧ zSumN w 21 ≠ 0) ∧
           v = some (.inr (.inl (zLow (zMxN (sh x.toNat).1 y (zFs w ss n who ties g.toNat) m.toNat).toNat ((zWtS (sh x.toNat).1 y m.toNat).toNat * (zSumN w 21).toNat * 2520) part)))))) ∨
       (¬ ((0 ≤ g ∧ g < n) ∧ (0 ≤ x ∧ x < 4) ∧ (0 ≤ l ∧ l ≤ 2) ∧ (1 ≤ m ∧ m ≤ 21) ∧ (part = 0 ∨ part = 1)) ∧ v = some (.inr (.inl (-1))))) ∧ wd = wFp img w ks ss n who ties su cs sz (zKs w' ks' ss' n' who' ties' su' cs' sz' (zTs b tn tp fl rs rc sh))) := by
  have hn := hL.1
  have hsum := zSumN_in hW
  have hwei := zWei21 hW
  refine zMet.of (own := RX6) rfl (by decide +kernel) tk_Fp_mixed fok_Fp cok_Fp (Nat.le_of_ble_eq_true rfl) (fun G hG => ?_)
  refine hG.1 [] 80 _ _ _ _ ?_
  refine hG.2.1 (c_Co_has hg hn) yv_Co_has lk_Fp_76 (by decide +kernel) rfl rfl [4, 5, 6] (by decide +kernel) rfl rfl rfl (Nat.le_of_ble_eq_true rfl) (fun v w2 hv hl2 => ?_)
  obtain ⟨⟨h1, rfl⟩ | ⟨h1, rfl⟩, rfl⟩ := hv
  · change G _ _ _ (wFp img w ks ss n who ties su cs sz (zKs w' ks' ss' n' who' ties' su' cs' sz' (zTs b tn tp fl rs rc sh)))
    refine hG.1 [] 80 _ _ _ _ ?_
    refine ⟨by omega, fun q => absurd q (by omega), fun q => ?_⟩
    refine hG.2.2.1 (c_Fp_isSheet hx) ys_Fp_isSheet (Or.inl lk_Fp_221) (by decide +kernel) rfl [] (by decide +kernel) rfl rfl rfl (Nat.le_of_ble_eq_true rfl) (fun v w2 hv hl2 => ?_)
    obtain ⟨⟨h2, rfl⟩ | ⟨h2, rfl⟩, rfl⟩ := hv
    · change G _ _ _ (wFp img w ks ss n who ties su cs sz (zKs w' ks' ss' n' who' ties' su' cs' sz' (zTs b tn tp fl rs rc sh)))
      refine hG.1 [] 80 _ _ _ _ ?_
      refine ⟨by omega, fun q => absurd q (by omega), fun q => ?_⟩
      refine hG.2.2.1 (c_Fp_isLane hl) ys_Fp_isLane (Or.inl lk_Fp_224) (by decide +kernel) rfl [] (by decide +kernel) rfl rfl rfl (Nat.le_of_ble_eq_true rfl) (fun v w2 hv hl2 => ?_)
      obtain ⟨⟨h3, rfl⟩ | ⟨h3, rfl⟩, rfl⟩ := hv
      · change G _ _ _ (wFp img w ks ss n who ties su cs sz (zKs w' ks' ss' n' who' ties' su' cs' sz' (zTs b tn tp fl rs rc sh)))
        refine hG.1 [] 80 _ _ _ _ ?_
        refine ⟨by omega, fun q => absurd q (by omega), fun q => ?_⟩
        refine ⟨by omega, fun q1 => ?_, fun q1 => ?_⟩
        · exact ⟨trivial, Or.inr ⟨fun z => by have := z.2.2.2.1; omega, rfl⟩, rfl⟩
        · refine ⟨by omega, fun q2 => ?_, fun q2 => ?_⟩
          · exact ⟨trivial, Or.inr ⟨fun z => by have := z.2.2.2.1; omega, rfl⟩, rfl⟩
          · refine hG.2.2.1 (c_Fp_isPart hp) ys_Fp_isPart (Or.inl lk_Fp_152) (by decide +kernel) rfl [] (by decide +kernel) rfl rfl rfl (Nat.le_of_ble_eq_true rfl) (fun v w2 hv hl2 => ?_)
            obtain ⟨⟨h5, rfl⟩ | ⟨h5, rfl⟩, rfl⟩ := hv
            · change G _ _ _ (wFp img w ks ss n who ties su cs sz (zKs w' ks' ss' n' who' ties' su' cs' sz' (zTs b tn tp fl rs rc sh)))
              have hall : (0 ≤ g ∧ g < n) ∧ (0 ≤ x ∧ x < 4) ∧ (0 ≤ l ∧ l ≤ 2) ∧ (1 ≤ m ∧ m ≤ 21) ∧ (part = 0 ∨ part = 1) := ⟨h1, h2, h3, ⟨by omega, by omega⟩, h5⟩
              obtain ⟨i, rfl⟩ := z_nat h2.1
              obtain ⟨k, rfl⟩ := z_nat h1.1
              obtain ⟨c, rfl⟩ := z_nat (show 0 ≤ m by omega)
              have hi := hH i (by omega)
              have hrin := zRef_in (sh i).2.1 (sh i).2.2 l y c
              refine hG.1 [] 80 _ _ _ _ ?_
              refine ⟨by omega, fun q => ?_, fun q => absurd q (by omega)⟩
              refine ⟨by omega, ?_⟩
              refine hG.2.1 (c_Sh_refusal (it := (sh i).1) (lane := (sh i).2.1) (size := (sh i).2.2) (a := l) (f := y) (n := c) hi.2.1 hi.1 hl hy (by omega)) yv_Sh_refusal lk_Fp_227 (by decide +kernel) rfl rfl [99 + 2 * i, 99 + 2 * i + 1] (z_nd2 i) (sh_pick i (by omega)) rfl rfl (Nat.le_of_ble_eq_true rfl) (fun v w2 hv hl2 => ?_)
              obtain ⟨rfl, rfl⟩ := hv
              rw [sh_back i (by omega)]
              refine hG.1 [] 80 _ _ _ _ ?_
              refine ⟨by omega, fun q3 => ?_, fun q3 => ?_⟩
              · have h4 := zRef_0 q3
                refine hG.2.1 (c_Sh_weightsTogether (it := (sh i).1) (lane := (sh i).2.1) (size := (sh i).2.2) (f := y) (n := c) hi.2.1.2 (by omega) hi.2.2) yv_Sh_weightsTogether lk_Fp_230 (by decide +kernel) rfl rfl [99 + 2 * i, 99 + 2 * i + 1] (z_nd2 i) (sh_pick i (by omega)) rfl rfl (Nat.le_of_ble_eq_true rfl) (fun v w2 hv hl2 => ?_)
                obtain ⟨rfl, rfl⟩ := hv
                rw [sh_back i (by omega)]
                have hwt : zAllW (sh i).1 y c → 0 ≤ zWtS (sh i).1 y c ∧ zWtS (sh i).1 y c ≤ 99 * (c : Int) := zWtS_in
                by_cases haw : zAllW (sh i).1 y c
                · rw [zWt_eq haw]
                  have hws := hwt haw
                  refine hG.1 [] 80 _ _ _ _ ?_
                  refine hG.2.1 (c_Su_together (w := w)) yv_Su_together lk_Fp_88 (by decide +kernel) rfl rfl [2, 3] (by decide +kernel) rfl rfl rfl (Nat.le_of_ble_eq_true rfl) (fun v w2 hv hl2 => ?_)
                  obtain ⟨rfl, rfl⟩ := hv
                  change G _ _ _ (wFp img w ks ss n who ties su cs sz (zKs w' ks' ss' n' who' ties' su' cs' sz' (zTs b tn tp fl rs rc sh)))
                  refine hG.1 [127] 80 _ _ _ _ ?_
                  refine ⟨by omega, fun q4 => ?_, fun q4 => ?_⟩
                  · exact ⟨trivial, Or.inl ⟨hall, Or.inr (Or.inl ⟨q3, Or.inr (Or.inl (by rw [Int.toNat_natCast, Int.toNat_natCast]; omega)), rfl⟩)⟩, rfl⟩
                  · refine ⟨by omega, fun q5 => ?_, fun q5 => ?_⟩
                    · have hf : ∀ k1, 0 ≤ zFs w ss n who ties k k1 ∧ zFs w ss n who ties k k1 ≤ 200000000 := fun k1 => by
                        have := zBu_in (w := w) (ss := z_u ss k k1) (n := n) (who := who) (ties := ties) (g := k) hW
                        unfold zFs; omega
                      refine z_up0 (n := c) (P := fun j : Nat => G 127 [(0, .inr (.inr 0)), (1, .inl (k : Int)), (2, .inl (i : Int)), (3, .inl l), (4, .inl y), (5, .inl (c : Int)), (6, .inl part), (7, .inr (.inr (99 + 2 * i))), (8, .inl (zRef (sh i).2.1 (sh i).2.2 l y c)), (9, .inr (.inl (zWtS (sh i).1 y c))), (11, .inl (zSumN w 21)), (12, .inr (.inl (zMxN (sh i).1 y (zFs w ss n who ties k) j))), (14, .inl (j : Int))] [] (wFp img w ks ss n who ties su cs sz (zKs w' ks' ss' n' who' ties' su' cs' sz' (zTs b tn tp fl rs rc sh)))) ?_ (fun j hj ih => ?_)
                      · have hmx := zMxN_in hf haw
                        obtain ⟨tt, htt⟩ := z_nat hmx.1
                        obtain ⟨ww, hww⟩ := z_nat hws.1
                        obtain ⟨aa, haa⟩ := z_nat hsum.1
                        have e60 : (2 : Nat) ^ 60 = 1152921504606846976 := by decide
                        have hww1 : 0 < ww := by omega
                        have haa1 : 0 < aa := by omega
                        have hpos : 0 < ww * aa * 2520 := Nat.mul_pos (Nat.mul_pos hww1 haa1) (by omega)
                        have hle : ww * aa ≤ 2079 * 2079 := Nat.mul_le_mul (by omega) (by omega)
                        rw [htt, hww, haa]
                        refine hG.1 [] 80 _ _ _ _ ?_
                        refine ⟨by omega, fun q6 => ?_, fun q6 => absurd q6 (by omega)⟩
                        refine ⟨by omega, ?_⟩
                        refine hG.2.2.1 (c_Fp_lowest (t := tt) (b := ww * aa * 2520) (part := part) (by omega) (by omega) h5) ys_Fp_lowest (Or.inl lk_Fp_160) (by decide +kernel) rfl [] (by decide +kernel) rfl rfl rfl (Nat.le_of_ble_eq_true rfl) (fun v w2 hv hl2 => ?_)
                        obtain ⟨rfl, rfl⟩ := hv
                        change G _ _ _ (wFp img w ks ss n who ties su cs sz (zKs w' ks' ss' n' who' ties' su' cs' sz' (zTs b tn tp fl rs rc sh)))
                        refine hG.1 [] 80 _ _ _ _ ?_
                        refine ⟨trivial, Or.inl ⟨hall, Or.inr (Or.inr ⟨q3, ⟨haw, by rw [Int.toNat_natCast, Int.toNat_natCast]; omega, q5⟩, ?_⟩)⟩, rfl⟩
                        rw [Int.toNat_natCast, Int.toNat_natCast, Int.toNat_natCast, htt, hww, haa, Int.toNat_natCast, Int.toNat_natCast, Int.toNat_natCast] <;> rfl
                      · have e : zMxN (sh i).1 y (zFs w ss n who ties k) (j + 1) = zMxN (sh i).1 y (zFs w ss n who ties k) j + (if 0 < (sh i).1 (y + j) then (sh i).1 (y + j) * zFs w ss n who ties k j else 0) := rfl
                        have haj := haw j hj
                        refine hG.1 [127] 80 _ _ _ _ ?_
                        refine ⟨by omega, fun q6 => absurd q6 (by omega), fun q6 => ?_⟩
                        refine hG.2.1 (c_Sh_itemAt (it := (sh i).1) (lane := (sh i).2.1) (size := (sh i).2.2) (i := y + j) hi.2.1.2 (by omega)) yv_Sh_itemAt lk_Fp_234 (by decide +kernel) rfl rfl [99 + 2 * i, 99 + 2 * i + 1] (z_nd2 i) (sh_pick i (by omega)) rfl rfl (Nat.le_of_ble_eq_true rfl) (fun v w2 hv hl2 => ?_)
                        obtain ⟨rfl, rfl⟩ := hv
                        rw [sh_back i (by omega)]
                        refine hG.1 [127] 80 _ _ _ _ ?_
                        refine ⟨by omega, fun q7 => ?_, fun q7 => ?_⟩
                        · rw [e, if_neg (by omega), Int.add_zero] at ih
                          exact hG.2.2.2.2.1 (fun q hq => List.mem_append_left _ hq) ih
                        · refine hG.2.1 (c_Ta_burdenBy (w := w) (ks := ks) (ss := ss) (n := n) (who := who) (ties := ties) (g := k) (x := j) (by omega) (by omega) hL hS hW) yv_Ta_burdenBy lk_Fp_237 (by decide +kernel) rfl rfl [1, 2, 3, 4, 5, 6] (by decide +kernel) rfl rfl rfl (Nat.le_of_ble_eq_true rfl) (fun v w2 hv hl2 => ?_)
                          obtain ⟨rfl, rfl⟩ := hv
                          change G _ _ _ (wFp img w ks ss n who ties su cs sz (zKs w' ks' ss' n' who' ties' su' cs' sz' (zTs b tn tp fl rs rc sh)))
                          rw [e, if_pos q7] at ih
                          refine hG.1 [127] 80 _ _ _ _ ?_
                          exact hG.2.2.2.2.1 (fun q hq => List.mem_append_left _ hq) ih
                    · exact ⟨trivial, Or.inl ⟨hall, Or.inr (Or.inl ⟨q3, Or.inr (Or.inr q5), rfl⟩)⟩, rfl⟩
                · rw [zWt_neg haw]
                  refine hG.1 [] 80 _ _ _ _ ?_
                  refine hG.2.1 (c_Su_together (w := w)) yv_Su_together lk_Fp_88 (by decide +kernel) rfl rfl [2, 3] (by decide +kernel) rfl rfl rfl (Nat.le_of_ble_eq_true rfl) (fun v w2 hv hl2 => ?_)
                  obtain ⟨rfl, rfl⟩ := hv
                  change G _ _ _ (wFp img w ks ss n who ties su cs sz (zKs w' ks' ss' n' who' ties' su' cs' sz' (zTs b tn tp fl rs rc sh)))
                  refine hG.1 [127] 80 _ _ _ _ ?_
                  refine ⟨by omega, fun q4 => ?_, fun q4 => absurd q4 (by omega)⟩
                  exact ⟨trivial, Or.inl ⟨hall, Or.inr (Or.inl ⟨q3, Or.inl haw, rfl⟩)⟩, rfl⟩
              · exact ⟨by omega, trivial, Or.inl ⟨hall, Or.inl ⟨q3, rfl⟩⟩, rfl⟩
            · change G _ _ _ (wFp img w ks ss n who ties su cs sz (zKs w' ks' ss' n' who' ties' su' cs' sz' (zTs b tn tp fl rs rc sh)))
              refine hG.1 [] 80 _ _ _ _ ?_
              refine ⟨by omega, fun q => absurd rfl q, fun q => ?_⟩
              exact ⟨trivial, Or.inr ⟨fun z => h5 z.2.2.2.2, rfl⟩, rfl⟩
      · change G _ _ _ (wFp img w ks ss n who ties su cs sz (zKs w' ks' ss' n' who' ties' su' cs' sz' (zTs b tn tp fl rs rc sh)))
        refine hG.1 [] 80 _ _ _ _ ?_
        refine ⟨by omega, fun q => ?_, fun q => absurd rfl q⟩
        exact ⟨trivial, Or.inr ⟨fun z => h3 z.2.2.1, rfl⟩, rfl⟩
    · change G _ _ _ (wFp img w ks ss n who ties su cs sz (zKs w' ks' ss' n' who' ties' su' cs' sz' (zTs b tn tp fl rs rc sh)))
      refine hG.1 [] 80 _ _ _ _ ?_
      refine ⟨by omega, fun q => ?_, fun q => absurd rfl q⟩
      exact ⟨trivial, Or.inr ⟨fun z => h2 z.2.1, rfl⟩, rfl⟩
  · change G _ _ _ (wFp img w ks ss n who ties su cs sz (zKs w' ks' ss' n' who' ties' su' cs' sz' (zTs b tn tp fl rs rc sh)))
    refine hG.1 [] 80 _ _ _ _ ?_
    refine ⟨by omega, fun q => ?_, fun q => absurd rfl q⟩
    exact ⟨trivial, Or.inr ⟨fun z => h1 z.1, rfl⟩, rfl⟩
end Fy
end
section
/-! THE REFERENCE: its world, numbers, weights, guests, laws -/
abbrev wMo (w ks ss : Int → Int) (n : Nat) (la su nm np ns : Int → Int) (sz : Nat) (tp : Int → Int) (tn pl : Nat) (rs : Int) (rd : Int → Int) (lp ik : Int) (kp : Int → Int) (km kn : Int) (ln rz it : Int → Int) : zW := [.inl (7, [.inr (.inr 1), .inr (.inr 2), .inr (.inr 3), .inr (.inr 4), .inl (n : Int), .inr (.inr 5), .inr (.inr 6), .inr (.inr 7), .inr (.inr 8), .inl (sz : Int), .inr (.inr 9), .inl (tn : Int), .inl (pl : Int), .inl rs, .inr (.inr 10), .inl lp, .inl ik, .inr (.inr 11), .inl km, .inl kn, .inr (.inr 12), .inr (.inr 13), .inr (.inr 14)]), .inr (0, (21, .inl w)), .inr (0, (9, .inl ks)), .inr (0, (9, .inl ss)), .inr (0, (2, .inl la)), .inr (0, (12, .inl su)), .inr (0, (12, .inl nm)), .inr (0, (12, .inl np)), .inr (0, (108, .inl ns)), .inr (0, (80, .inl tp)), .inr (0, (21, .inl rd)), .inr (0, (185, .inl kp)), .inr (0, (4, .inl ln)), .inr (0, (4, .inl rz)), .inr (0, (96, .inr (.inl it)))]
theorem c_Mo_in {a b c : Int} (ha : -9223372036854775808 ≤ a ∧ a ≤ 9223372036854775807) (hb : -9223372036854775808 ≤ b ∧ b ≤ 9223372036854775807) (hc : -9223372036854775808 ≤ c ∧ c ≤ 9223372036854775807) : zMet m_Mo_in [.inr (.inl a), .inr (.inl b), .inr (.inl c)] [] (fun v w => z_bool (b ≤ a ∧ a ≤ c) v ∧ w = []) := by
  refine zMet.of (own := RX7) rfl (by decide +kernel) tk_Mo_in fok_Mo cok_Mo (Nat.le_of_ble_eq_true rfl) (fun G hG => ?_)
  refine hG.1 [] 80 _ _ _ _ ?_
  refine ⟨by omega, fun h1 => ?_, fun h1 => ?_⟩
  · exact ⟨Or.inl rfl, Or.inr ⟨by omega, rfl⟩, rfl⟩
  · refine ⟨by omega, fun h2 => ?_, fun h2 => ?_⟩
    · exact ⟨Or.inl rfl, Or.inr ⟨by omega, rfl⟩, rfl⟩
    · exact ⟨Or.inr rfl, Or.inl ⟨by omega, rfl⟩, rfl⟩
theorem c_Mo_isSum {x : Int} (hx : -9223372036854775808 ≤ x ∧ x ≤ 9223372036854775807) : zMet m_Mo_isSum [.inr (.inl x)] [] (fun v w => z_bool (0 ≤ x ∧ x < 21) v ∧ w = []) := by
  refine zMet.of (own := RX7) rfl (by decide +kernel) tk_Mo_isSum fok_Mo cok_Mo (Nat.le_of_ble_eq_true rfl) (fun G hG => ?_)
  refine hG.1 [] 80 _ _ _ _ ?_
  refine hG.2.2.1 (c_Mo_in (a := x) (b := 0) (c := 20) hx (by omega) (by omega)) ys_Mo_in (Or.inl lk_Mo_55) (by decide +kernel) rfl [] (by decide +kernel) rfl rfl rfl (Nat.le_of_ble_eq_true rfl) (fun v w2 hv hl2 => ?_)
  obtain ⟨⟨hc, rfl⟩ | ⟨hc, rfl⟩, rfl⟩ := hv
  · refine hG.1 [] 80 _ _ _ _ ?_
    exact ⟨Or.inr rfl, Or.inl ⟨by omega, rfl⟩, rfl⟩
  · refine hG.1 [] 80 _ _ _ _ ?_
    exact ⟨Or.inl rfl, Or.inr ⟨by omega, rfl⟩, rfl⟩
theorem c_Mo_has {x : Int} {g : Nat} (hx : -2147483648 ≤ x ∧ x ≤ 2147483647) (hg : g < 31) : zMet m_Mo_has [.inl x, .inl (g : Int)] [] (fun v w => z_bool (zBit x g) v ∧ w = []) := by
  have hand := z_and_in (x / 2 ^ (g : Int).toNat) 1
  refine zMet.of (own := RX7) rfl (by decide +kernel) tk_Mo_has fok_Mo cok_Mo (Nat.le_of_ble_eq_true rfl) (fun G hG => ?_)
  refine hG.1 [] 80 _ _ _ _ ?_
  refine ⟨by omega, by omega, fun h1 => ?_, fun h1 => ?_⟩
  · exact ⟨Or.inl rfl, Or.inr ⟨h1, rfl⟩, rfl⟩
  · exact ⟨Or.inr rfl, Or.inl ⟨h1, rfl⟩, rfl⟩
theorem zPop_on : ∀ s : Nat, s < 512 → 0 < s → (z_and (s : Nat) ((s : Nat) - 1) = ((z_and (s : Nat) ((s : Nat) - 1)).toNat : Int) ∧ (z_and (s : Nat) ((s : Nat) - 1)).toNat < s ∧ zPop 9 s = zPop 9 (z_and (s : Nat) ((s : Nat) - 1)).toNat + 1) := by decide +kernel
theorem zPop_9 : ∀ s : Nat, s < 512 → zPop 9 s ≤ 9 := by decide +kernel
theorem c_Mo_ones {s : Nat} (hs : s < 512) : zMet m_Mo_ones [.inl (s : Int)] [] (fun v w => v = some (.inl (zPop 9 s : Int)) ∧ w = []) := by
  have h9 := zPop_9 s hs
  refine zMet.of (own := RX7) rfl (by decide +kernel) tk_Mo_ones fok_Mo cok_Mo (Nat.le_of_ble_eq_true rfl) (fun G hG => ?_)
  refine hG.1 [4] 80 _ _ _ _ ?_
  have key : ∀ m t c : Nat, t < m → t < 512 → c + zPop 9 t = zPop 9 s → G 4 [(0, .inl (s : Int)), (1, .inl (c : Int)), (2, .inl (t : Int))] [] [] := by
    intro m
    induction m with
    | zero => intro t c h; omega
    | succ m ih =>
      intro t c h h5 he
      refine hG.1 [4] 80 _ _ _ _ ?_
      refine ⟨by omega, fun q => ?_, fun q => ?_⟩
      · have ht : t = 0 := by omega
        subst ht
        have h0 : zPop 9 0 = 0 := by decide
        exact ⟨trivial, by rw [← he, h0] <;> rfl, rfl⟩
      · obtain ⟨e1, e2, e3⟩ := zPop_on t h5 (by omega)
        have h6 := ih (z_and (t : Nat) ((t : Nat) - 1)).toNat (c + 1) (by omega) (by omega) (by omega)
        rw [← e1] at h6
        exact h6
  exact key 512 s 0 hs hs (by omega)
section M1
variable {w ks ss : Int → Int} {n : Nat} {la su nm np ns : Int → Int} {sz : Nat} {tp : Int → Int} {tn pl : Nat} {rs : Int} {rd : Int → Int} {lp ik : Int} {kp : Int → Int} {km kn : Int} {ln rz it : Int → Int}
theorem c_Mo_isGuest {g : Int} (hg : -2147483648 ≤ g ∧ g ≤ 2147483647) (hn : n ≤ 9) : zMet m_Mo_isGuest [.inr (.inr 0), .inl g] (wMo w ks ss n la su nm np ns sz tp tn pl rs rd lp ik kp km kn ln rz it) (fun v wd => z_bool (0 ≤ g ∧ g < n) v ∧ wd = wMo w ks ss n la su nm np ns sz tp tn pl rs rd lp ik kp km kn ln rz it) := by
  refine zMet.of (own := RX7) rfl (by decide +kernel) tk_Mo_isGuest fok_Mo cok_Mo (Nat.le_of_ble_eq_true rfl) (fun G hG => ?_)
  refine hG.1 [] 80 _ _ _ _ ?_
  refine ⟨by omega, by omega, ?_⟩
  refine hG.2.2.1 (c_Mo_in (a := g) (b := 0) (c := (n : Int) - 1) (by omega) (by omega) (by omega)) ys_Mo_in (Or.inl lk_Mo_55) (by decide +kernel) rfl [] (by decide +kernel) rfl rfl rfl (Nat.le_of_ble_eq_true rfl) (fun v w2 hv hl2 => ?_)
  obtain ⟨⟨hc, rfl⟩ | ⟨hc, rfl⟩, rfl⟩ := hv
  · change G _ _ _ (wMo w ks ss n la su nm np ns sz tp tn pl rs rd lp ik kp km kn ln rz it)
    refine hG.1 [] 80 _ _ _ _ ?_
    exact ⟨Or.inr rfl, Or.inl ⟨by omega, rfl⟩, rfl⟩
  · change G _ _ _ (wMo w ks ss n la su nm np ns sz tp tn pl rs rd lp ik kp km kn ln rz it)
    refine hG.1 [] 80 _ _ _ _ ?_
    exact ⟨Or.inl rfl, Or.inr ⟨by omega, rfl⟩, rfl⟩
theorem c_Mo_weight {x y : Int} (hx : -2147483648 ≤ x ∧ x ≤ 2147483647) (hy : -2147483648 ≤ y ∧ y ≤ 2147483647) :
    zMet m_Mo_weight [.inr (.inr 0), .inl x, .inl y] (wMo w ks ss n la su nm np ns sz tp tn pl rs rd lp ik kp km kn ln rz it) (fun v wd => (((0 ≤ x ∧ x < 21) ∧ (0 ≤ y ∧ y ≤ 99)) ∧ v = some (.inl (w x)) ∧ wd = wMo (z_u w x y) ks ss n la su nm np ns sz tp tn pl rs rd lp ik kp km kn ln rz it) ∨ (¬ ((0 ≤ x ∧ x < 21) ∧ (0 ≤ y ∧ y ≤ 99)) ∧ v = some (.inl (-1)) ∧ wd = wMo w ks ss n la su nm np ns sz tp tn pl rs rd lp ik kp km kn ln rz it)) := by
  refine zMet.of (own := RX7) rfl (by decide +kernel) tk_Mo_weight fok_Mo cok_Mo (Nat.le_of_ble_eq_true rfl) (fun G hG => ?_)
  refine hG.1 [] 80 _ _ _ _ ?_
  refine ⟨by omega, ?_⟩
  refine hG.2.2.1 (c_Mo_isSum (x := x) (by omega)) ys_Mo_isSum (Or.inl lk_Mo_63) (by decide +kernel) rfl [] (by decide +kernel) rfl rfl rfl (Nat.le_of_ble_eq_true rfl) (fun v w2 hv hl2 => ?_)
  obtain ⟨⟨hc, rfl⟩ | ⟨hc, rfl⟩, rfl⟩ := hv
  · change G _ _ _ (wMo w ks ss n la su nm np ns sz tp tn pl rs rd lp ik kp km kn ln rz it)
    refine hG.1 [] 80 _ _ _ _ ?_
    refine ⟨by omega, fun q => absurd q (by omega), fun q => ?_⟩
    refine ⟨by omega, ?_⟩
    refine hG.2.2.1 (c_Mo_in (a := y) (b := 0) (c := 99) (by omega) (by omega) (by omega)) ys_Mo_in (Or.inl lk_Mo_55) (by decide +kernel) rfl [] (by decide +kernel) rfl rfl rfl (Nat.le_of_ble_eq_true rfl) (fun v w2 hv hl2 => ?_)
    obtain ⟨⟨hd, rfl⟩ | ⟨hd, rfl⟩, rfl⟩ := hv
    · change G _ _ _ (wMo w ks ss n la su nm np ns sz tp tn pl rs rd lp ik kp km kn ln rz it)
      refine hG.1 [] 80 _ _ _ _ ?_
      refine ⟨by omega, fun q => ?_, fun q => absurd q (by omega)⟩
      exact ⟨by omega, by omega, trivial, Or.inl ⟨⟨hc, hd⟩, rfl, rfl⟩⟩
    · change G _ _ _ (wMo w ks ss n la su nm np ns sz tp tn pl rs rd lp ik kp km kn ln rz it)
      refine hG.1 [] 80 _ _ _ _ ?_
      refine ⟨by omega, fun q => absurd rfl q, fun q => ?_⟩
      exact ⟨trivial, Or.inr ⟨fun z => hd z.2, rfl, rfl⟩⟩
  · change G _ _ _ (wMo w ks ss n la su nm np ns sz tp tn pl rs rd lp ik kp km kn ln rz it)
    refine hG.1 [] 80 _ _ _ _ ?_
    refine ⟨by omega, fun q => ?_, fun q => absurd rfl q⟩
    exact ⟨trivial, Or.inr ⟨fun z => hc z.1, rfl, rfl⟩⟩
theorem c_Mo_add {x y : Int} (hn : n < 9) :
    zMet m_Mo_add [.inr (.inr 0), .inl x, .inl y] (wMo w ks ss n la su nm np ns sz tp tn pl rs rd lp ik kp km kn ln rz it) (fun v wd => v = none ∧ wd = wMo w (z_u ks n x) (z_u ss n y) (n + 1) la su nm np ns sz tp tn pl rs rd lp ik kp km kn ln rz it) := by
  refine zMet.of (own := RX7) rfl (by decide +kernel) tk_Mo_add fok_Mo cok_Mo (Nat.le_of_ble_eq_true rfl) (fun G hG => ?_)
  refine hG.1 [] 80 _ _ _ _ ?_
  exact ⟨by omega, by omega, trivial, rfl, rfl⟩
theorem c_Mo_guest {x : Int} (hx : -2147483648 ≤ x ∧ x ≤ 2147483647) (hn : n ≤ 9) :
    zMet m_Mo_guest [.inr (.inr 0), .inl x] (wMo w ks ss n la su nm np ns sz tp tn pl rs rd lp ik kp km kn ln rz it) (fun v wd => ((0 ≤ x ∧ x ≤ 3) ∧ n < 9 ∧ v = some (.inl (n : Int)) ∧ wd = wMo w (z_u ks n x) (z_u ss n 0) (n + 1) la su nm np ns sz tp tn pl rs rd lp ik kp km kn ln rz it) ∨ ((0 ≤ x ∧ x ≤ 3) ∧ ¬ n < 9 ∧ v = some (.inl (-3)) ∧ wd = wMo w ks ss n la su nm np ns sz tp tn pl rs rd lp ik kp km kn ln rz it) ∨ (¬ (0 ≤ x ∧ x ≤ 3) ∧ v = some (.inl (-1)) ∧ wd = wMo w ks ss n la su nm np ns sz tp tn pl rs rd lp ik kp km kn ln rz it)) := by
  refine zMet.of (own := RX7) rfl (by decide +kernel) tk_Mo_guest fok_Mo cok_Mo (Nat.le_of_ble_eq_true rfl) (fun G hG => ?_)
  refine hG.1 [] 80 _ _ _ _ ?_
  refine ⟨by omega, ?_⟩
  refine hG.2.2.1 (c_Mo_in (a := x) (b := 0) (c := 3) (by omega) (by omega) (by omega)) ys_Mo_in (Or.inl lk_Mo_55) (by decide +kernel) rfl [] (by decide +kernel) rfl rfl rfl (Nat.le_of_ble_eq_true rfl) (fun v w2 hv hl2 => ?_)
  obtain ⟨⟨hc, rfl⟩ | ⟨hc, rfl⟩, rfl⟩ := hv
  · change G _ _ _ (wMo w ks ss n la su nm np ns sz tp tn pl rs rd lp ik kp km kn ln rz it)
    refine hG.1 [] 80 _ _ _ _ ?_
    refine ⟨by omega, fun q => ?_, fun q => absurd q (by omega)⟩
    refine ⟨by omega, fun h2 => ?_, fun h2 => ?_⟩
    · refine hG.2.1 (c_Mo_add (x := x) (y := 0) (show n < 9 by omega)) yv_Mo_add lk_Mo_71 (by decide +kernel) rfl rfl [0, 1, 2, 3, 4, 5, 6, 7, 8, 9, 10, 11, 12, 13, 14] (by decide +kernel) rfl rfl rfl (Nat.le_of_ble_eq_true rfl) (fun v w2 hv hl2 => ?_)
      obtain ⟨rfl, rfl⟩ := hv
      change G _ _ _ (wMo w (z_u ks n x) (z_u ss n 0) (n + 1) la su nm np ns sz tp tn pl rs rd lp ik kp km kn ln rz it)
      refine hG.1 [] 80 _ _ _ _ ?_
      exact ⟨trivial, Or.inl ⟨hc, by omega, by congr 2; omega, rfl⟩⟩
    · exact ⟨trivial, Or.inr (Or.inl ⟨hc, by omega, rfl, rfl⟩)⟩
  · change G _ _ _ (wMo w ks ss n la su nm np ns sz tp tn pl rs rd lp ik kp km kn ln rz it)
    refine hG.1 [] 80 _ _ _ _ ?_
    refine ⟨by omega, fun q => absurd rfl q, fun q => ?_⟩
    exact ⟨trivial, Or.inr (Or.inr ⟨hc, rfl, rfl⟩)⟩
theorem c_Mo_slip {g x : Int} (hg : -2147483648 ≤ g ∧ g ≤ 2147483647) (hx : -2147483648 ≤ x ∧ x ≤ 2147483647) (hn : n ≤ 9) (hK : zOkK ks n) :
    zMet m_Mo_slip [.inr (.inr 0), .inl g, .inl x] (wMo w ks ss n la su nm np ns sz tp tn pl rs rd lp ik kp km kn ln rz it) (fun v wd => (((0 ≤ g ∧ g < n) ∧ (0 ≤ x ∧ x < 21)) ∧ (ks g = 2 ∧ x ≠ 0) ∧ v = some (.inl (-2)) ∧ wd = wMo w ks ss n la su nm np ns sz tp tn pl rs rd lp ik kp km kn ln rz it) ∨ (((0 ≤ g ∧ g < n) ∧ (0 ≤ x ∧ x < 21)) ∧ ¬ (ks g = 2 ∧ x ≠ 0) ∧ v = some (.inl (ss g)) ∧ wd = wMo w ks (z_u ss g x) n la su nm np ns sz tp tn pl rs rd lp ik kp km kn ln rz it) ∨ (¬ ((0 ≤ g ∧ g < n) ∧ (0 ≤ x ∧ x < 21)) ∧ v = some (.inl (-1)) ∧ wd = wMo w ks ss n la su nm np ns sz tp tn pl rs rd lp ik kp km kn ln rz it)) := by
  refine zMet.of (own := RX7) rfl (by decide +kernel) tk_Mo_slip fok_Mo cok_Mo (Nat.le_of_ble_eq_true rfl) (fun G hG => ?_)
  refine hG.1 [] 80 _ _ _ _ ?_
  refine hG.2.1 (c_Mo_isGuest (g := g) hg hn) yv_Mo_isGuest lk_Mo_75 (by decide +kernel) rfl rfl [0, 1, 2, 3, 4, 5, 6, 7, 8, 9, 10, 11, 12, 13, 14] (by decide +kernel) rfl rfl rfl (Nat.le_of_ble_eq_true rfl) (fun v w2 hv hl2 => ?_)
  obtain ⟨⟨hc, rfl⟩ | ⟨hc, rfl⟩, rfl⟩ := hv
  · change G _ _ _ (wMo w ks ss n la su nm np ns sz tp tn pl rs rd lp ik kp km kn ln rz it)
    refine hG.1 [] 80 _ _ _ _ ?_
    refine ⟨by omega, fun q => absurd q (by omega), fun q => ?_⟩
    refine ⟨by omega, ?_⟩
    refine hG.2.2.1 (c_Mo_isSum (x := x) (by omega)) ys_Mo_isSum (Or.inl lk_Mo_63) (by decide +kernel) rfl [] (by decide +kernel) rfl rfl rfl (Nat.le_of_ble_eq_true rfl) (fun v w2 hv hl2 => ?_)
    obtain ⟨⟨hd, rfl⟩ | ⟨hd, rfl⟩, rfl⟩ := hv
    · change G _ _ _ (wMo w ks ss n la su nm np ns sz tp tn pl rs rd lp ik kp km kn ln rz it)
      obtain ⟨k, rfl⟩ := z_nat hc.1
      have hkk := hK k (by omega)
      refine hG.1 [] 80 _ _ _ _ ?_
      refine ⟨by omega, fun q => ?_, fun q => absurd q (by omega)⟩
      refine ⟨by omega, by omega, fun h3 => ?_, fun h3 => ?_⟩
      · exact ⟨by omega, by omega, trivial, Or.inr (Or.inl ⟨⟨hc, hd⟩, fun z => h3 z.1, rfl, rfl⟩)⟩
      · refine ⟨by omega, fun h4 => ?_, fun h4 => ?_⟩
        · exact ⟨by omega, by omega, trivial, Or.inr (Or.inl ⟨⟨hc, hd⟩, fun z => z.2 h4, rfl, rfl⟩)⟩
        · exact ⟨trivial, Or.inl ⟨⟨hc, hd⟩, ⟨h3, h4⟩, rfl, rfl⟩⟩
    · change G _ _ _ (wMo w ks ss n la su nm np ns sz tp tn pl rs rd lp ik kp km kn ln rz it)
      refine hG.1 [] 80 _ _ _ _ ?_
      refine ⟨by omega, fun q => absurd rfl q, fun q => ?_⟩
      exact ⟨trivial, Or.inr (Or.inr ⟨fun z => hd z.2, rfl, rfl⟩)⟩
  · change G _ _ _ (wMo w ks ss n la su nm np ns sz tp tn pl rs rd lp ik kp km kn ln rz it)
    refine hG.1 [] 80 _ _ _ _ ?_
    refine ⟨by omega, fun q => ?_, fun q => absurd rfl q⟩
    exact ⟨trivial, Or.inr (Or.inr ⟨fun z => hc z.1, rfl, rfl⟩)⟩
theorem c_Mo_allWeights : zMet m_Mo_allWeights [.inr (.inr 0)] (wMo w ks ss n la su nm np ns sz tp tn pl rs rd lp ik kp km kn ln rz it) (fun v wd => v = some (.inl (zSumN w 21)) ∧ wd = wMo w ks ss n la su nm np ns sz tp tn pl rs rd lp ik kp km kn ln rz it) := by
  refine zMet.of (own := RX7) rfl (by decide +kernel) tk_Mo_allWeights fok_Mo cok_Mo (Nat.le_of_ble_eq_true rfl) (fun G hG => ?_)
  refine hG.1 [4] 80 _ _ _ _ ?_
  refine z_up0 (n := 21) (P := fun i : Nat => G 4 [(0, .inr (.inr 0)), (1, .inl (zSumN w i)), (2, .inl (i : Int))] [] (wMo w ks ss n la su nm np ns sz tp tn pl rs rd lp ik kp km kn ln rz it)) ?_ (fun i hi ih => ?_)
  · refine hG.1 [] 80 _ _ _ _ ?_
    refine ⟨by omega, fun h1 => ?_, fun h1 => absurd h1 (by omega)⟩
    exact ⟨trivial, rfl, rfl⟩
  · refine hG.1 [4] 80 _ _ _ _ ?_
    refine ⟨by omega, fun h1 => absurd h1 (by omega), fun h1 => ?_⟩
    exact ⟨by omega, ih⟩
theorem c_Mo_told {g x : Int} (hg : -2147483648 ≤ g ∧ g ≤ 2147483647) (hx : -2147483648 ≤ x ∧ x ≤ 2147483647) (hn : n ≤ 9) :
    zMet m_Mo_told [.inr (.inr 0), .inl g, .inl x] (wMo w ks ss n la su nm np ns sz tp tn pl rs rd lp ik kp km kn ln rz it) (fun v wd => v = some (.inl (if (0 ≤ g ∧ g < n) ∧ (0 ≤ x ∧ x ≤ 1) then (if x = 0 then ks g else ss g) else -1)) ∧ wd = wMo w ks ss n la su nm np ns sz tp tn pl rs rd lp ik kp km kn ln rz it) := by
  refine zMet.of (own := RX7) rfl (by decide +kernel) tk_Mo_told fok_Mo cok_Mo (Nat.le_of_ble_eq_true rfl) (fun G hG => ?_)
  refine hG.1 [] 80 _ _ _ _ ?_
  refine hG.2.1 (c_Mo_isGuest (g := g) hg hn) yv_Mo_isGuest lk_Mo_75 (by decide +kernel) rfl rfl [0, 1, 2, 3, 4, 5, 6, 7, 8, 9, 10, 11, 12, 13, 14] (by decide +kernel) rfl rfl rfl (Nat.le_of_ble_eq_true rfl) (fun v w2 hv hl2 => ?_)
  obtain ⟨⟨hc, rfl⟩ | ⟨hc, rfl⟩, rfl⟩ := hv
  · change G _ _ _ (wMo w ks ss n la su nm np ns sz tp tn pl rs rd lp ik kp km kn ln rz it)
    refine hG.1 [] 80 _ _ _ _ ?_
    refine ⟨by omega, fun q => absurd q (by omega), fun q => ?_⟩
    refine ⟨by omega, ?_⟩
    refine hG.2.2.1 (c_Mo_in (a := x) (b := 0) (c := 1) (by omega) (by omega) (by omega)) ys_Mo_in (Or.inl lk_Mo_55) (by decide +kernel) rfl [] (by decide +kernel) rfl rfl rfl (Nat.le_of_ble_eq_true rfl) (fun v w2 hv hl2 => ?_)
    obtain ⟨⟨hd, rfl⟩ | ⟨hd, rfl⟩, rfl⟩ := hv
    · change G _ _ _ (wMo w ks ss n la su nm np ns sz tp tn pl rs rd lp ik kp km kn ln rz it)
      refine hG.1 [] 80 _ _ _ _ ?_
      refine ⟨by omega, fun q => ?_, fun q => absurd q (by omega)⟩
      refine ⟨by omega, fun h4 => ?_, fun h4 => ?_⟩
      · exact ⟨by omega, trivial, by rw [if_pos ⟨hc, hd⟩, if_neg h4] <;> rfl, rfl⟩
      · exact ⟨by omega, trivial, by rw [if_pos ⟨hc, hd⟩, if_pos h4] <;> rfl, rfl⟩
    · change G _ _ _ (wMo w ks ss n la su nm np ns sz tp tn pl rs rd lp ik kp km kn ln rz it)
      refine hG.1 [] 80 _ _ _ _ ?_
      refine ⟨by omega, fun q => absurd rfl q, fun q => ?_⟩
      exact ⟨trivial, by rw [if_neg (fun z => hd z.2)], rfl⟩
  · change G _ _ _ (wMo w ks ss n la su nm np ns sz tp tn pl rs rd lp ik kp km kn ln rz it)
    refine hG.1 [] 80 _ _ _ _ ?_
    refine ⟨by omega, fun q => ?_, fun q => absurd rfl q⟩
    exact ⟨trivial, by rw [if_neg (fun z => hc z.1)], rfl⟩
theorem c_Mo_forget : zMet m_Mo_forget [.inr (.inr 0)] (wMo w ks ss n la su nm np ns sz tp tn pl rs rd lp ik kp km kn ln rz it) (fun v wd => v = some (.inl (sz : Int)) ∧ wd = wMo w ks ss n la su nm np ns (0) tp tn pl rs rd lp ik kp km kn ln rz it) := by
  refine zMet.of (own := RX7) rfl (by decide +kernel) tk_Mo_forget fok_Mo cok_Mo (Nat.le_of_ble_eq_true rfl) (fun G hG => ?_)
  refine hG.1 [] 80 _ _ _ _ ?_
  exact ⟨trivial, rfl, rfl⟩
end M1
end
section
/-! THE REFERENCE: laws, counts, writing, distances, the middle -/
noncomputable def zMid (ss : Int → Int) (n : Nat) : Nat → Int
  | 0 => 0
  | k + 1 => if (zPlaceN ss k n : Int) = ((n : Int) - 1) / 2 then (k : Int) else zMid ss n k
theorem zMid_in {ss : Int → Int} {n : Nat} : ∀ k, 0 ≤ zMid ss n k ∧ zMid ss n k ≤ (k : Int)
  | 0 => by show (0 : Int) ≤ 0 ∧ (0 : Int) ≤ 0; omega
  | k + 1 => by
    have h := zMid_in (ss := ss) (n := n) k
    unfold zMid; split <;> omega
section M2
variable {w ks ss : Int → Int} {n : Nat} {la su nm np ns : Int → Int} {sz : Nat} {tp : Int → Int} {tn pl : Nat} {rs : Int} {rd : Int → Int} {lp ik : Int} {kp : Int → Int} {km kn : Int} {ln rz it : Int → Int}
theorem c_Mo_rule {g x : Int} (hg : -2147483648 ≤ g ∧ g ≤ 2147483647) (hx : -2147483648 ≤ x ∧ x ≤ 2147483647) :
    zMet m_Mo_rule [.inr (.inr 0), .inl g, .inl x] (wMo w ks ss n la su nm np ns sz tp tn pl rs rd lp ik kp km kn ln rz it) (fun v wd => ((g = 0 ∧ 0 ≤ x ∧ x ≤ 3) ∧ v = some (.inl (la 0)) ∧ wd = wMo w ks ss n (z_u la 0 x) su nm np ns sz tp tn pl rs rd lp ik kp km kn ln rz it) ∨ ((g = 1 ∧ 0 ≤ x ∧ x ≤ 2) ∧ v = some (.inl (la 1)) ∧ wd = wMo w ks ss n (z_u la 1 x) su nm np ns sz tp tn pl rs rd lp ik kp km kn ln rz it) ∨ (¬ (g = 0 ∧ 0 ≤ x ∧ x ≤ 3) ∧ ¬ (g = 1 ∧ 0 ≤ x ∧ x ≤ 2) ∧ v = some (.inl (-1)) ∧ wd = wMo w ks ss n la su nm np ns sz tp tn pl rs rd lp ik kp km kn ln rz it)) := by
  refine zMet.of (own := RX7) rfl (by decide +kernel) tk_Mo_rule fok_Mo cok_Mo (Nat.le_of_ble_eq_true rfl) (fun G hG => ?_)
  refine hG.1 [] 80 _ _ _ _ ?_
  refine ⟨by omega, ?_⟩
  refine hG.2.2.1 (c_Mo_in (a := g) (b := 0) (c := 1) (by omega) (by omega) (by omega)) ys_Mo_in (Or.inl lk_Mo_55) (by decide +kernel) rfl [] (by decide +kernel) rfl rfl rfl (Nat.le_of_ble_eq_true rfl) (fun v w2 hv hl2 => ?_)
  obtain ⟨⟨hc, rfl⟩ | ⟨hc, rfl⟩, rfl⟩ := hv
  · change G _ _ _ (wMo w ks ss n la su nm np ns sz tp tn pl rs rd lp ik kp km kn ln rz it)
    refine hG.1 [] 80 _ _ _ _ ?_
    refine ⟨by omega, fun q => absurd q (by omega), fun q => ?_⟩
    refine ⟨by omega, by omega, fun h1 => ?_, fun h1 => ?_⟩
    · have hg1 : g = 1 := by omega
      subst hg1
      refine hG.2.2.1 (c_Mo_in (a := x) (b := 0) (c := 2) (by omega) (by omega) (by omega)) ys_Mo_in (Or.inl lk_Mo_55) (by decide +kernel) rfl [] (by decide +kernel) rfl rfl rfl (Nat.le_of_ble_eq_true rfl) (fun v w2 hv hl2 => ?_)
      obtain ⟨⟨hd, rfl⟩ | ⟨hd, rfl⟩, rfl⟩ := hv
      · change G _ _ _ (wMo w ks ss n la su nm np ns sz tp tn pl rs rd lp ik kp km kn ln rz it)
        refine hG.1 [] 80 _ _ _ _ ?_
        refine ⟨by omega, fun q => ?_, fun q => absurd q (by omega)⟩
        exact ⟨by omega, by omega, trivial, Or.inr (Or.inl ⟨⟨rfl, hd⟩, rfl, rfl⟩)⟩
      · change G _ _ _ (wMo w ks ss n la su nm np ns sz tp tn pl rs rd lp ik kp km kn ln rz it)
        refine hG.1 [] 80 _ _ _ _ ?_
        refine ⟨by omega, fun q => absurd rfl q, fun q => ?_⟩
        exact ⟨trivial, Or.inr (Or.inr ⟨by omega, fun z => hd z.2, rfl, rfl⟩)⟩
    · subst h1
      refine hG.2.2.1 (c_Mo_in (a := x) (b := 0) (c := 3) (by omega) (by omega) (by omega)) ys_Mo_in (Or.inl lk_Mo_55) (by decide +kernel) rfl [] (by decide +kernel) rfl rfl rfl (Nat.le_of_ble_eq_true rfl) (fun v w2 hv hl2 => ?_)
      obtain ⟨⟨hd, rfl⟩ | ⟨hd, rfl⟩, rfl⟩ := hv
      · change G _ _ _ (wMo w ks ss n la su nm np ns sz tp tn pl rs rd lp ik kp km kn ln rz it)
        refine hG.1 [] 80 _ _ _ _ ?_
        refine ⟨by omega, fun q => ?_, fun q => absurd q (by omega)⟩
        exact ⟨by omega, by omega, trivial, Or.inl ⟨⟨rfl, hd⟩, rfl, rfl⟩⟩
      · change G _ _ _ (wMo w ks ss n la su nm np ns sz tp tn pl rs rd lp ik kp km kn ln rz it)
        refine hG.1 [] 80 _ _ _ _ ?_
        refine ⟨by omega, fun q => absurd rfl q, fun q => ?_⟩
        exact ⟨trivial, Or.inr (Or.inr ⟨fun z => hd z.2, by omega, rfl, rfl⟩)⟩
  · change G _ _ _ (wMo w ks ss n la su nm np ns sz tp tn pl rs rd lp ik kp km kn ln rz it)
    refine hG.1 [] 80 _ _ _ _ ?_
    refine ⟨by omega, fun q => ?_, fun q => absurd rfl q⟩
    exact ⟨trivial, Or.inr (Or.inr ⟨by omega, by omega, rfl, rfl⟩)⟩
theorem c_Mo_count {x : Int} (hx : -2147483648 ≤ x ∧ x ≤ 2147483647) (hW : zOkW w) :
    zMet m_Mo_count [.inr (.inr 0), .inl x] (wMo w ks ss n la su nm np ns sz tp tn pl rs rd lp ik kp km kn ln rz it) (fun v wd => v = some (.inl (if x = 0 then (n : Int) else if x = 1 then (zPosN w 21 : Int) else if x = 2 then zSumN w 21 else if x = 3 then (sz : Int) else -1)) ∧ wd = wMo w ks ss n la su nm np ns sz tp tn pl rs rd lp ik kp km kn ln rz it) := by
  refine zMet.of (own := RX7) rfl (by decide +kernel) tk_Mo_count fok_Mo cok_Mo (Nat.le_of_ble_eq_true rfl) (fun G hG => ?_)
  refine hG.1 [4] 80 _ _ _ _ ?_
  refine z_up0 (n := 21) (P := fun i : Nat => G 4 [(0, .inr (.inr 0)), (1, .inl x), (2, .inl (zPosN w i : Int)), (3, .inl (i : Int))] [] (wMo w ks ss n la su nm np ns sz tp tn pl rs rd lp ik kp km kn ln rz it)) ?_ (fun i hi ih => ?_)
  · refine hG.1 [] 80 _ _ _ _ ?_
    refine ⟨by omega, fun q => ?_, fun q => absurd q (by omega)⟩
    refine ⟨by omega, fun h1 => ?_, fun h1 => ?_⟩
    · refine ⟨by omega, fun h2 => ?_, fun h2 => ?_⟩
      · refine ⟨by omega, fun h3 => ?_, fun h3 => ?_⟩
        · refine ⟨by omega, fun h4 => ?_, fun h4 => ?_⟩
          · exact ⟨trivial, by rw [if_neg h1, if_neg h2, if_neg h3, if_neg h4], rfl⟩
          · exact ⟨trivial, by rw [if_neg h1, if_neg h2, if_neg h3, if_pos h4] <;> rfl, rfl⟩
        · refine hG.2.1 (c_Mo_allWeights ) yv_Mo_allWeights lk_Mo_79 (by decide +kernel) rfl rfl [0, 1, 2, 3, 4, 5, 6, 7, 8, 9, 10, 11, 12, 13, 14] (by decide +kernel) rfl rfl rfl (Nat.le_of_ble_eq_true rfl) (fun v w2 hv hl2 => ?_)
          obtain ⟨rfl, rfl⟩ := hv
          change G _ _ _ (wMo w ks ss n la su nm np ns sz tp tn pl rs rd lp ik kp km kn ln rz it)
          refine hG.1 [] 80 _ _ _ _ ?_
          exact ⟨trivial, by rw [if_neg h1, if_neg h2, if_pos h3] <;> rfl, rfl⟩
      · exact ⟨trivial, by rw [if_neg h1, if_pos h2] <;> rfl, rfl⟩
    · exact ⟨trivial, by rw [if_pos h1] <;> rfl, rfl⟩
  · have hwi := hW i hi
    have e : zPosN w (i + 1) = zPosN w i + (if 0 < w i then 1 else 0) := rfl
    refine hG.1 [4] 80 _ _ _ _ ?_
    refine ⟨by omega, fun q => absurd q (by omega), fun q => ?_⟩
    refine ⟨by omega, by omega, fun h2 => ?_, fun h2 => ?_⟩
    · rw [e, if_neg (by omega)] at ih
      exact ih
    · rw [e, if_pos h2] at ih
      exact ih
theorem c_Mo_write {x : Int} (hx : -2147483648 ≤ x ∧ x ≤ 2147483647) (hn : n ≤ 9) (hK : zOkK ks n) (hS : zOkS ss n) (hW : zOkW w) :
    zMet m_Mo_write [.inr (.inr 0), .inl x] (wMo w ks ss n la su nm np ns sz tp tn pl rs rd lp ik kp km kn ln rz it) (fun v wd => ((0 ≤ x ∧ x < 21) ∧ zSumN w 21 = 0 ∧ v = some (.inl (-2)) ∧ wd = wMo w ks ss n la su nm np ns sz tp tn pl rs rd lp ik kp km kn ln rz it) ∨ ((0 ≤ x ∧ x < 21) ∧ zSumN w 21 ≠ 0 ∧ v = some (.inl (zChgN ks ss x (zMean w) n : Int)) ∧ wd = wMo w ks (zWr ks ss x (zMean w) n) n la su nm np ns sz tp tn pl rs rd lp ik kp km kn ln rz it) ∨ (¬ (0 ≤ x ∧ x < 21) ∧ v = some (.inl (-1)) ∧ wd = wMo w ks ss n la su nm np ns sz tp tn pl rs rd lp ik kp km kn ln rz it)) := by
  have hsum := zSumN_in hW
  have hwei := zWeiN_in (Nat.le_refl 21) hW
  have hmean := zMean_in hW
  refine zMet.of (own := RX7) rfl (by decide +kernel) tk_Mo_write fok_Mo cok_Mo (Nat.le_of_ble_eq_true rfl) (fun G hG => ?_)
  refine hG.1 [] 80 _ _ _ _ ?_
  refine ⟨by omega, ?_⟩
  refine hG.2.2.1 (c_Mo_isSum (x := x) (by omega)) ys_Mo_isSum (Or.inl lk_Mo_63) (by decide +kernel) rfl [] (by decide +kernel) rfl rfl rfl (Nat.le_of_ble_eq_true rfl) (fun v w2 hv hl2 => ?_)
  obtain ⟨⟨hc, rfl⟩ | ⟨hc, rfl⟩, rfl⟩ := hv
  · change G _ _ _ (wMo w ks ss n la su nm np ns sz tp tn pl rs rd lp ik kp km kn ln rz it)
    refine hG.1 [] 80 _ _ _ _ ?_
    refine ⟨by omega, fun q => ?_, fun q => absurd q (by omega)⟩
    refine hG.2.1 (c_Mo_allWeights ) yv_Mo_allWeights lk_Mo_79 (by decide +kernel) rfl rfl [0, 1, 2, 3, 4, 5, 6, 7, 8, 9, 10, 11, 12, 13, 14] (by decide +kernel) rfl rfl rfl (Nat.le_of_ble_eq_true rfl) (fun v w2 hv hl2 => ?_)
    obtain ⟨rfl, rfl⟩ := hv
    change G _ _ _ (wMo w ks ss n la su nm np ns sz tp tn pl rs rd lp ik kp km kn ln rz it)
    refine hG.1 [27] 80 _ _ _ _ ?_
    refine ⟨by omega, fun h1 => ?_, fun h1 => ?_⟩
    · refine z_up0 (n := 21) (P := fun i : Nat => G 27 [(0, .inr (.inr 0)), (1, .inl x), (2, .inl (zSumN w 21)), (3, .inl (zWeiN w i)), (4, .inl (i : Int))] [] (wMo w ks ss n la su nm np ns sz tp tn pl rs rd lp ik kp km kn ln rz it)) ?_ (fun i hi ih => ?_)
      · have em : zWeiN w 21 / zSumN w 21 = zMean w := by rw [zMean, if_neg h1]
        refine hG.1 [63] 80 _ _ _ _ ?_
        refine ⟨by omega, fun q => ?_, fun q => absurd q (by omega)⟩
        refine ⟨by omega, ?_⟩
        rw [em]
        suffices L : G 63 [(0, .inr (.inr 0)), (1, .inl x), (2, .inl (zSumN w 21)), (3, .inl (zMean w)), (4, .inl ((0 : Nat) : Int)), (5, .inl ((0 : Nat) : Int))] [] (wMo w ks (zWr ks ss x (zMean w) 0) n la su nm np ns sz tp tn pl rs rd lp ik kp km kn ln rz it) by
          rw [zWr_0] at L; exact L
        refine z_up0 (n := n) (P := fun i : Nat => G 63 [(0, .inr (.inr 0)), (1, .inl x), (2, .inl (zSumN w 21)), (3, .inl (zMean w)), (4, .inl (zChgN ks ss x (zMean w) i : Int)), (5, .inl (i : Int))] [] (wMo w ks (zWr ks ss x (zMean w) i) n la su nm np ns sz tp tn pl rs rd lp ik kp km kn ln rz it)) ?_ (fun i hi ih => ?_)
        · refine hG.1 [] 80 _ _ _ _ ?_
          refine ⟨by omega, fun q => ?_, fun q => absurd q (by omega)⟩
          exact ⟨trivial, Or.inr (Or.inl ⟨hc, h1, rfl, rfl⟩)⟩
        · have hki := hK i hi
          have hsi := hS i hi
          have hin : 0 ≤ zAlone ks ss x (zMean w) i ∧ zAlone ks ss x (zMean w) i ≤ 20 := by
            unfold zAlone; repeat' split
            all_goals omega
          have e : zChgN ks ss x (zMean w) (i + 1) = zChgN ks ss x (zMean w) i + (if zAlone ks ss x (zMean w) i = ss i then 0 else 1) := rfl
          have eat := zWr_at ks ss x (zMean w) i
          have tail : ∀ v, v = zAlone ks ss x (zMean w) i → G 124 [(0, .inr (.inr 0)), (1, .inl x), (2, .inl (zSumN w 21)), (3, .inl (zMean w)), (4, .inl (zChgN ks ss x (zMean w) i : Int)), (5, .inl (i : Int))] [.inl v] (wMo w ks (zWr ks ss x (zMean w) i) n la su nm np ns sz tp tn pl rs rd lp ik kp km kn ln rz it) := by
            rintro v rfl
            refine hG.1 [63] 80 _ _ _ _ ?_
            refine ⟨by omega, by omega, fun h2 => ?_, fun h2 => ?_⟩
            · rw [eat] at h2
              rw [e, if_neg h2, ← zWr_put] at ih
              exact ⟨by omega, hG.2.2.2.2.1 (fun q hq => List.mem_append_left _ hq) ih⟩
            · rw [eat] at h2
              rw [e, if_pos h2, ← zWr_put] at ih
              exact ⟨by omega, hG.2.2.2.2.1 (fun q hq => List.mem_append_left _ hq) ih⟩
          refine hG.1 [124] 80 _ _ _ _ ?_
          refine ⟨by omega, fun q => absurd q (by omega), fun q => ?_⟩
          refine ⟨by omega, by omega, fun k1 => ?_, fun k1 => ?_⟩
          · refine ⟨by omega, by omega, fun k2 => ?_, fun k2 => ?_⟩
            · refine ⟨by omega, by omega, fun k3 => ?_, fun k3 => ?_⟩
              · exact ⟨by omega, tail _ (by unfold zAlone; rw [if_neg k1, if_neg k2, if_neg k3, eat])⟩
              · exact tail _ (by unfold zAlone; rw [if_neg k1, if_neg k2, if_pos k3])
            · exact tail _ (by unfold zAlone; rw [if_neg k1, if_pos k2])
          · exact tail _ (by unfold zAlone; rw [if_pos k1])
      · refine hG.1 [27] 80 _ _ _ _ ?_
        refine ⟨by omega, fun q => absurd q (by omega), fun q => ?_⟩
        exact ⟨by omega, ih⟩
    · exact ⟨trivial, Or.inl ⟨hc, h1, rfl, rfl⟩⟩
  · change G _ _ _ (wMo w ks ss n la su nm np ns sz tp tn pl rs rd lp ik kp km kn ln rz it)
    refine hG.1 [] 80 _ _ _ _ ?_
    refine ⟨by omega, fun q => absurd rfl q, fun q => ?_⟩
    exact ⟨trivial, Or.inr (Or.inr ⟨hc, rfl, rfl⟩)⟩
theorem c_Mo_off {g : Nat} {sum : Int} (hg : g < 9) (hs : 0 ≤ ss g ∧ ss g ≤ 20) (hx : 0 ≤ sum ∧ sum ≤ 20) :
    zMet m_Mo_off [.inr (.inr 0), .inl (g : Int), .inl sum] (wMo w ks ss n la su nm np ns sz tp tn pl rs rd lp ik kp km kn ln rz it) (fun v wd => v = some (.inl (zOff ss sum g)) ∧ wd = wMo w ks ss n la su nm np ns sz tp tn pl rs rd lp ik kp km kn ln rz it) := by
  refine zMet.of (own := RX7) rfl (by decide +kernel) tk_Mo_off fok_Mo cok_Mo (Nat.le_of_ble_eq_true rfl) (fun G hG => ?_)
  refine hG.1 [] 80 _ _ _ _ ?_
  refine ⟨by omega, by omega, fun q => ?_, fun q => ?_⟩
  · exact ⟨trivial, by rw [zOff, zAbs, if_neg (by omega)], rfl⟩
  · exact ⟨trivial, by rw [zOff, zAbs, if_pos (by omega)], rfl⟩
theorem c_Mo_middle (hn : n ≤ 9) (hS : zOkS ss n) :
    zMet m_Mo_middle [.inr (.inr 0)] (wMo w ks ss n la su nm np ns sz tp tn pl rs rd lp ik kp km kn ln rz it) (fun v wd => v = some (.inl (zMid ss n n)) ∧ wd = wMo w ks ss n la su nm np ns sz tp tn pl rs rd lp ik kp km kn ln rz it) := by
  refine zMet.of (own := RX7) rfl (by decide +kernel) tk_Mo_middle fok_Mo cok_Mo (Nat.le_of_ble_eq_true rfl) (fun G hG => ?_)
  refine hG.1 [4] 80 _ _ _ _ ?_
  refine z_up0 (n := n) (P := fun i : Nat => G 4 [(0, .inr (.inr 0)), (1, .inl (zMid ss n i)), (2, .inl (i : Int))] [] (wMo w ks ss n la su nm np ns sz tp tn pl rs rd lp ik kp km kn ln rz it)) ?_ (fun i hi ih => ?_)
  · refine hG.1 [] 80 _ _ _ _ ?_
    refine ⟨by omega, fun q => ?_, fun q => absurd q (by omega)⟩
    exact ⟨trivial, rfl, rfl⟩
  · have hm := zMid_in (ss := ss) (n := n) i
    have e : zMid ss n (i + 1) = if (zPlaceN ss i n : Int) = ((n : Int) - 1) / 2 then (i : Int) else zMid ss n i := rfl
    have hsi := hS i hi
    refine hG.1 [17] 80 _ _ _ _ ?_
    refine ⟨by omega, fun q => absurd q (by omega), fun q => ?_⟩
    refine z_up0 (n := n) (P := fun j : Nat => G 17 [(0, .inr (.inr 0)), (1, .inl (zMid ss n i)), (2, .inl (i : Int)), (3, .inl (zPlaceN ss i j : Int)), (4, .inl (j : Int))] [] (wMo w ks ss n la su nm np ns sz tp tn pl rs rd lp ik kp km kn ln rz it)) ?_ (fun j hj jh => ?_)
    · have hp := zPlaceN_le ss i n
      refine hG.1 [4] 80 _ _ _ _ ?_
      refine ⟨by omega, fun q2 => ?_, fun q2 => absurd q2 (by omega)⟩
      refine ⟨by omega, by omega, fun h1 => ?_, fun h1 => ?_⟩
      · rw [e, if_neg h1] at ih
        exact hG.2.2.2.2.1 (fun q hq => List.mem_append_left _ hq) ih
      · rw [e, if_pos h1] at ih
        exact hG.2.2.2.2.1 (fun q hq => List.mem_append_left _ hq) ih
    · have hsj := hS j hj
      have hp := zPlaceN_le ss i j
      have e2 : zPlaceN ss i (j + 1) = zPlaceN ss i j + (if ss j < ss i ∨ (ss j = ss i ∧ j < i) then 1 else 0) := rfl
      refine hG.1 [17] 80 _ _ _ _ ?_
      refine ⟨by omega, fun q2 => absurd q2 (by omega), fun q2 => ?_⟩
      refine ⟨by omega, by omega, by omega, fun h1 => ?_, fun h1 => ?_⟩
      · rw [e2, if_pos (Or.inl h1)] at jh
        exact jh
      · refine ⟨by omega, by omega, by omega, fun h2 => ?_, fun h2 => ?_⟩
        · rw [e2, if_neg (by omega)] at jh
          exact jh
        · refine ⟨by omega, fun h3 => ?_, fun h3 => ?_⟩
          · rw [e2, if_neg (by omega)] at jh
            exact jh
          · rw [e2, if_pos (by omega)] at jh
            exact jh
end M2
end
section
/-! THE REFERENCE: the farthest, one of them, the first off -/
theorem z_p2 : ∀ g, g < 12 → (1 * 2 ^ ((g : Nat) : Int).toNat : Int) = ((2 ^ g : Nat) : Int) := by decide +kernel
theorem z_p2lt : ∀ g, g < 9 → 2 ^ g < 512 := by decide +kernel
def zDst (near : Int) (ss : Int → Int) (sum : Int) (g : Nat) : Int := if near = 0 then zOff ss sum g else 99 - zOff ss sum g
def zFar (near : Int) (ss : Int → Int) (sum : Int) (p : Nat → Bool) : Nat → Int × Nat
  | 0 => (-1, 0)
  | k + 1 => if p k = true then (if (zFar near ss sum p k).1 < zDst near ss sum k then (zDst near ss sum k, 2 ^ k) else if zDst near ss sum k = (zFar near ss sum p k).1 then ((zFar near ss sum p k).1, (zFar near ss sum p k).2 + 2 ^ k) else zFar near ss sum p k) else zFar near ss sum p k
theorem zDst_in {near : Int} {ss : Int → Int} {sum : Int} {g : Nat} (h : 0 ≤ ss g ∧ ss g ≤ 20) (hs : 0 ≤ sum ∧ sum ≤ 20) : 0 ≤ zDst near ss sum g ∧ zDst near ss sum g ≤ 99 := by
  have := zOff_in (o := g) h hs
  unfold zDst; split <;> omega
theorem zFar_in {near : Int} {ss : Int → Int} {n : Nat} {sum : Int} {p : Nat → Bool} (hS : zOkS ss n) (hs : 0 ≤ sum ∧ sum ≤ 20) : ∀ k, k ≤ n → (-1 ≤ (zFar near ss sum p k).1 ∧ (zFar near ss sum p k).1 ≤ 99) ∧ (zFar near ss sum p k).2 < 2 ^ k
  | 0, _ => by show (-1 ≤ (-1 : Int) ∧ (-1 : Int) ≤ 99) ∧ 0 < 1; omega
  | k + 1, hk => by
    have h1 := zFar_in (near := near) (p := p) hS hs k (by omega)
    have h2 := zDst_in (near := near) (hS k (by omega)) hs
    have h3 : 2 ^ (k + 1) = 2 ^ k + 2 ^ k := by rw [Nat.pow_succ]; omega
    unfold zFar
    split
    · split
      · show (-1 ≤ zDst near ss sum k ∧ zDst near ss sum k ≤ 99) ∧ 2 ^ k < 2 ^ (k + 1)
        have : 0 < 2 ^ k := Nat.two_pow_pos k
        omega
      · split
        · show (-1 ≤ (zFar near ss sum p k).1 ∧ (zFar near ss sum p k).1 ≤ 99) ∧ (zFar near ss sum p k).2 + 2 ^ k < 2 ^ (k + 1)
          omega
        · omega
    · omega
def zLst (p : Nat → Bool) (s0 : Int) : Nat → Int
  | 0 => s0
  | k + 1 => if p k = true then ((2 ^ k : Nat) : Int) else zLst p s0 k
def zFst (ss : Int → Int) (ties sum : Int) (p : Nat → Bool) : Nat → Int
  | 0 => -1
  | k + 1 => if p k = true ∧ (zFst ss ties sum p k < 0 ∨ zOff ss sum (zFst ss ties sum p k).toNat < zOff ss sum k ∨ (ties = 2 ∧ zOff ss sum k = zOff ss sum (zFst ss ties sum p k).toNat)) then (k : Int) else zFst ss ties sum p k
theorem zFst_in {ss : Int → Int} {ties sum : Int} {p : Nat → Bool} : ∀ k, -1 ≤ zFst ss ties sum p k ∧ zFst ss ties sum p k < (k : Int)
  | 0 => by show (-1 : Int) ≤ -1 ∧ (-1 : Int) < 0; omega
  | k + 1 => by
    have h := zFst_in (ss := ss) (ties := ties) (sum := sum) (p := p) k
    unfold zFst; split <;> omega
section M3
variable {w ks ss : Int → Int} {n : Nat} {la su nm np ns : Int → Int} {sz : Nat} {tp : Int → Int} {tn pl : Nat} {rs : Int} {rd : Int → Int} {lp ik : Int} {kp : Int → Int} {km kn : Int} {ln rz it : Int → Int}
theorem c_Mo_oneOf {x : Int} {p : Nat → Bool} (hx : -2147483648 ≤ x ∧ x ≤ 2147483647) (hp : ∀ k, k < 9 → (zBit x k ↔ p k = true)) (hla : 0 ≤ la 1 ∧ la 1 ≤ 2) :
    zMet m_Mo_oneOf [.inr (.inr 0), .inl x] (wMo w ks ss n la su nm np ns sz tp tn pl rs rd lp ik kp km kn ln rz it) (fun v wd => v = some (.inl (if la 1 = 2 then zLst p (z_and x (-x)) 9 else z_and x (-x))) ∧ wd = wMo w ks ss n la su nm np ns sz tp tn pl rs rd lp ik kp km kn ln rz it) := by
  refine zMet.of (own := RX7) rfl (by decide +kernel) tk_Mo_oneOf fok_Mo cok_Mo (Nat.le_of_ble_eq_true rfl) (fun G hG => ?_)
  refine hG.1 [10] 80 _ _ _ _ ?_
  refine z_up0 (n := 9) (P := fun i : Nat => G 10 [(0, .inr (.inr 0)), (1, .inl x), (2, .inl (z_and x (-x))), (3, .inl (zLst p (z_and x (-x)) i)), (4, .inl (i : Int))] [] (wMo w ks ss n la su nm np ns sz tp tn pl rs rd lp ik kp km kn ln rz it)) ?_ (fun i hi ih => ?_)
  · refine hG.1 [] 80 _ _ _ _ ?_
    refine ⟨by omega, fun q => ?_, fun q => absurd q (by omega)⟩
    refine ⟨by omega, by omega, fun h1 => ?_, fun h1 => ?_⟩
    · exact ⟨trivial, by rw [if_neg h1], rfl⟩
    · exact ⟨trivial, by rw [if_pos h1], rfl⟩
  · have e : zLst p (z_and x (-x)) (i + 1) = if p i = true then ((2 ^ i : Nat) : Int) else zLst p (z_and x (-x)) i := rfl
    refine hG.1 [10] 80 _ _ _ _ ?_
    refine ⟨by omega, fun q => absurd q (by omega), fun q => ?_⟩
    refine hG.2.2.1 (c_Mo_has (x := x) (g := i) hx (by omega)) ys_Mo_has (Or.inl lk_Mo_129) (by decide +kernel) rfl [] (by decide +kernel) rfl rfl rfl (Nat.le_of_ble_eq_true rfl) (fun v w2 hv hl2 => ?_)
    obtain ⟨⟨hc, rfl⟩ | ⟨hc, rfl⟩, rfl⟩ := hv
    · change G _ _ _ (wMo w ks ss n la su nm np ns sz tp tn pl rs rd lp ik kp km kn ln rz it)
      rw [e, if_pos ((hp i hi).mp hc), ← z_p2 i (by omega)] at ih
      refine hG.1 [10] 80 _ _ _ _ ?_
      refine ⟨by omega, fun q => absurd q (by omega), fun q => ?_⟩
      exact ⟨by omega, ih⟩
    · change G _ _ _ (wMo w ks ss n la su nm np ns sz tp tn pl rs rd lp ik kp km kn ln rz it)
      rw [e, if_neg (fun z => hc ((hp i hi).mpr z))] at ih
      refine hG.1 [10] 80 _ _ _ _ ?_
      refine ⟨by omega, fun q => ?_, fun q => absurd rfl q⟩
      exact ih
theorem c_Mo_firstOff {x sum : Int} {p : Nat → Bool} (hx : -2147483648 ≤ x ∧ x ≤ 2147483647) (hp : ∀ k, k < 9 → (zBit x k ↔ p k = true)) (hn : n ≤ 9) (hS : zOkS ss n) (hs : 0 ≤ sum ∧ sum ≤ 20) (hla : 0 ≤ la 1 ∧ la 1 ≤ 2) :
    zMet m_Mo_firstOff [.inr (.inr 0), .inl x, .inl sum] (wMo w ks ss n la su nm np ns sz tp tn pl rs rd lp ik kp km kn ln rz it) (fun v wd => v = some (.inl (zFst ss (la 1) sum p n)) ∧ wd = wMo w ks ss n la su nm np ns sz tp tn pl rs rd lp ik kp km kn ln rz it) := by
  refine zMet.of (own := RX7) rfl (by decide +kernel) tk_Mo_firstOff fok_Mo cok_Mo (Nat.le_of_ble_eq_true rfl) (fun G hG => ?_)
  refine hG.1 [5] 80 _ _ _ _ ?_
  refine z_up0 (n := n) (P := fun i : Nat => G 5 [(0, .inr (.inr 0)), (1, .inl x), (2, .inl sum), (3, .inl (zFst ss (la 1) sum p i)), (4, .inl (i : Int))] [] (wMo w ks ss n la su nm np ns sz tp tn pl rs rd lp ik kp km kn ln rz it)) ?_ (fun i hi ih => ?_)
  · refine hG.1 [] 80 _ _ _ _ ?_
    refine ⟨by omega, fun q => ?_, fun q => absurd q (by omega)⟩
    exact ⟨trivial, rfl, rfl⟩
  · have hin := zFst_in (ss := ss) (ties := la 1) (sum := sum) (p := p) i
    have hoi := zOff_in (o := i) (hS i hi) hs
    have e : zFst ss (la 1) sum p (i + 1) = if p i = true ∧ (zFst ss (la 1) sum p i < 0 ∨ zOff ss sum (zFst ss (la 1) sum p i).toNat < zOff ss sum i ∨ (la 1 = 2 ∧ zOff ss sum i = zOff ss sum (zFst ss (la 1) sum p i).toNat)) then (i : Int) else zFst ss (la 1) sum p i := rfl
    have t1 : (zFst ss (la 1) sum p i < 0 ∨ zOff ss sum (zFst ss (la 1) sum p i).toNat < zOff ss sum i ∨ (la 1 = 2 ∧ zOff ss sum i = zOff ss sum (zFst ss (la 1) sum p i).toNat)) → G 60 [(0, .inr (.inr 0)), (1, .inl x), (2, .inl sum), (3, .inl (zFst ss (la 1) sum p i)), (4, .inl (i : Int))] [] (wMo w ks ss n la su nm np ns sz tp tn pl rs rd lp ik kp km kn ln rz it) := by
      intro hh
      refine hG.1 [5] 80 _ _ _ _ ?_
      refine hG.2.2.1 (c_Mo_has (x := x) (g := i) hx (by omega)) ys_Mo_has (Or.inl lk_Mo_129) (by decide +kernel) rfl [] (by decide +kernel) rfl rfl rfl (Nat.le_of_ble_eq_true rfl) (fun v w2 hv hl2 => ?_)
      obtain ⟨⟨hc, rfl⟩ | ⟨hc, rfl⟩, rfl⟩ := hv
      · change G _ _ _ (wMo w ks ss n la su nm np ns sz tp tn pl rs rd lp ik kp km kn ln rz it)
        rw [e, if_pos ⟨(hp i (by omega)).mp hc, hh⟩] at ih
        refine hG.1 [5] 80 _ _ _ _ ?_
        refine ⟨by omega, fun q => absurd q (by omega), fun q => ?_⟩
        refine ⟨by omega, fun q => absurd q (by omega), fun q => ?_⟩
        exact hG.2.2.2.2.1 (fun q hq => List.mem_append_left _ hq) ih
      · change G _ _ _ (wMo w ks ss n la su nm np ns sz tp tn pl rs rd lp ik kp km kn ln rz it)
        rw [e, if_neg (fun z => hc ((hp i (by omega)).mpr z.1))] at ih
        refine hG.1 [5] 80 _ _ _ _ ?_
        refine ⟨by omega, fun q => ?_, fun q => absurd rfl q⟩
        exact hG.2.2.2.2.1 (fun q hq => List.mem_append_left _ hq) ih
    have t0 : ¬ (zFst ss (la 1) sum p i < 0 ∨ zOff ss sum (zFst ss (la 1) sum p i).toNat < zOff ss sum i ∨ (la 1 = 2 ∧ zOff ss sum i = zOff ss sum (zFst ss (la 1) sum p i).toNat)) → G 64 [(0, .inr (.inr 0)), (1, .inl x), (2, .inl sum), (3, .inl (zFst ss (la 1) sum p i)), (4, .inl (i : Int))] [] (wMo w ks ss n la su nm np ns sz tp tn pl rs rd lp ik kp km kn ln rz it) := by
      intro hh
      rw [e, if_neg (fun z => hh z.2)] at ih
      refine hG.1 [5] 80 _ _ _ _ ?_
      refine hG.2.2.1 (c_Mo_has (x := x) (g := i) hx (by omega)) ys_Mo_has (Or.inl lk_Mo_129) (by decide +kernel) rfl [] (by decide +kernel) rfl rfl rfl (Nat.le_of_ble_eq_true rfl) (fun v w2 hv hl2 => ?_)
      obtain ⟨⟨hc, rfl⟩ | ⟨hc, rfl⟩, rfl⟩ := hv
      · change G _ _ _ (wMo w ks ss n la su nm np ns sz tp tn pl rs rd lp ik kp km kn ln rz it)
        refine hG.1 [5] 80 _ _ _ _ ?_
        refine ⟨by omega, fun q => absurd q (by omega), fun q => ?_⟩
        refine ⟨by omega, fun q => ?_, fun q => absurd rfl q⟩
        exact hG.2.2.2.2.1 (fun q hq => List.mem_append_left _ hq) ih
      · change G _ _ _ (wMo w ks ss n la su nm np ns sz tp tn pl rs rd lp ik kp km kn ln rz it)
        refine hG.1 [5] 80 _ _ _ _ ?_
        refine ⟨by omega, fun q => ?_, fun q => absurd rfl q⟩
        exact hG.2.2.2.2.1 (fun q hq => List.mem_append_left _ hq) ih
    clear ih
    by_cases hneg : zFst ss (la 1) sum p i < 0
    · have t1' := t1 (Or.inl hneg)
      refine hG.1 [60] 80 _ _ _ _ ?_
      refine ⟨by omega, fun q => absurd q (by omega), fun q => ?_⟩
      exact ⟨by omega, fun _ => t1', fun q => absurd q (by omega)⟩
    · obtain ⟨j, hj⟩ := z_nat (show 0 ≤ zFst ss (la 1) sum p i by omega)
      rw [hj, Int.toNat_natCast] at t1 t0
      rw [hj] at hin hneg ⊢
      have hoj := zOff_in (o := j) (hS j (by omega)) hs
      refine hG.1 [60, 64] 80 _ _ _ _ ?_
      refine ⟨by omega, fun q => absurd q (by omega), fun q => ?_⟩
      refine ⟨by omega, fun q => absurd q (by omega), fun q => ?_⟩
      refine hG.2.1 (c_Mo_off (g := i) (sum := sum) (by omega) (hS i hi) hs) yv_Mo_off lk_Mo_133 (by decide +kernel) rfl rfl [0, 1, 2, 3, 4, 5, 6, 7, 8, 9, 10, 11, 12, 13, 14] (by decide +kernel) rfl rfl rfl (Nat.le_of_ble_eq_true rfl) (fun v w2 hv hl2 => ?_)
      obtain ⟨rfl, rfl⟩ := hv
      change G _ _ _ (wMo w ks ss n la su nm np ns sz tp tn pl rs rd lp ik kp km kn ln rz it)
      refine hG.1 [60, 64] 80 _ _ _ _ ?_
      refine hG.2.1 (c_Mo_off (g := j) (sum := sum) (by omega) (hS j (by omega)) hs) yv_Mo_off lk_Mo_133 (by decide +kernel) rfl rfl [0, 1, 2, 3, 4, 5, 6, 7, 8, 9, 10, 11, 12, 13, 14] (by decide +kernel) rfl rfl rfl (Nat.le_of_ble_eq_true rfl) (fun v w2 hv hl2 => ?_)
      obtain ⟨rfl, rfl⟩ := hv
      change G _ _ _ (wMo w ks ss n la su nm np ns sz tp tn pl rs rd lp ik kp km kn ln rz it)
      refine hG.1 [60, 64] 80 _ _ _ _ ?_
      refine ⟨by omega, fun h1 => ?_, fun h1 => ?_⟩
      · exact t1 (Or.inr (Or.inl h1))
      · refine ⟨by omega, by omega, fun h2 => ?_, fun h2 => ?_⟩
        · exact t0 (fun z => by omega)
        · refine hG.2.1 (c_Mo_off (g := i) (sum := sum) (by omega) (hS i hi) hs) yv_Mo_off lk_Mo_133 (by decide +kernel) rfl rfl [0, 1, 2, 3, 4, 5, 6, 7, 8, 9, 10, 11, 12, 13, 14] (by decide +kernel) rfl rfl rfl (Nat.le_of_ble_eq_true rfl) (fun v w2 hv hl2 => ?_)
          obtain ⟨rfl, rfl⟩ := hv
          change G _ _ _ (wMo w ks ss n la su nm np ns sz tp tn pl rs rd lp ik kp km kn ln rz it)
          refine hG.1 [60, 64] 80 _ _ _ _ ?_
          refine hG.2.1 (c_Mo_off (g := j) (sum := sum) (by omega) (hS j (by omega)) hs) yv_Mo_off lk_Mo_133 (by decide +kernel) rfl rfl [0, 1, 2, 3, 4, 5, 6, 7, 8, 9, 10, 11, 12, 13, 14] (by decide +kernel) rfl rfl rfl (Nat.le_of_ble_eq_true rfl) (fun v w2 hv hl2 => ?_)
          obtain ⟨rfl, rfl⟩ := hv
          change G _ _ _ (wMo w ks ss n la su nm np ns sz tp tn pl rs rd lp ik kp km kn ln rz it)
          refine hG.1 [60, 64] 80 _ _ _ _ ?_
          refine ⟨by omega, fun h3 => ?_, fun h3 => ?_⟩
          · exact t0 (fun z => by omega)
          · exact t1 (Or.inr (Or.inr ⟨h2, h3⟩))
end M3
end
section
/-! THE REFERENCE: the farthest, the payers -/
def zOne (ties : Int) (m : Nat) : Int := if ties = 2 then zLst (fun k => decide (zBit (m : Int) k)) (z_and (m : Int) (-(m : Int))) 9 else z_and (m : Int) (-(m : Int))
def zFm (ss : Int → Int) (n : Nat) (ties near sum : Int) (p : Nat → Bool) : Int := if ties = 1 then ((zFar near ss sum p n).2 : Int) else zOne ties (zFar near ss sum p n).2
theorem z_allB : ∀ n, n < 10 → ∀ k, k < 9 → (zBit (1 * 2 ^ ((n : Nat) : Int).toNat - 1) k ↔ decide (k < n) = true) := by decide +kernel
theorem z_butB : ∀ n, n < 10 → ∀ j, j < 9 → ∀ k, k < 9 → (zBit (z_and (1 * 2 ^ ((n : Nat) : Int).toNat - 1) (z_xor (1 * 2 ^ ((j : Nat) : Int).toNat) (-1))) k ↔ decide (k < n ∧ k ≠ j) = true) := by decide +kernel
theorem z_allR : ∀ n, n < 10 → (-2147483648 ≤ (1 * 2 ^ ((n : Nat) : Int).toNat - 1 : Int) ∧ (1 * 2 ^ ((n : Nat) : Int).toNat - 1 : Int) ≤ 2147483647) := by decide +kernel
theorem zFst_pos {ss : Int → Int} {ties sum : Int} {p : Nat → Bool} {k : Nat} (hk : p k = true) : ∀ n, k < n → 0 ≤ zFst ss ties sum p n
  | 0, h => absurd h (Nat.not_lt_zero _)
  | m + 1, h => by
    unfold zFst
    split
    · omega
    · rename_i hh
      by_cases hkm : k = m
      · subst hkm
        have : ¬ zFst ss ties sum p k < 0 := fun z => hh ⟨hk, Or.inl z⟩
        omega
      · exact zFst_pos hk m (by omega)
noncomputable def zPyM (ss : Int → Int) (n : Nat) (who ties sum : Int) : Int :=
  if who = 2 then (if n = 1 then 1 * 2 ^ (zFst ss ties sum (fun k => decide (k < n)) n).toNat
    else z_or (1 * 2 ^ (zFst ss ties sum (fun k => decide (k < n)) n).toNat) (1 * 2 ^ (zFst ss ties sum (fun k => decide (k < n ∧ k ≠ (zFst ss ties sum (fun k => decide (k < n)) n).toNat)) n).toNat))
  else if who = 3 ∧ 1 < n then zFm ss n ties 0 sum (fun k => decide (k < n ∧ k ≠ (zMid ss n n).toNat))
  else zFm ss n ties (if who = 1 then 1 else 0) sum (fun k => decide (k < n))
theorem zMid_lt {ss : Int → Int} {n : Nat} (h : 1 ≤ n) : zMid ss n n < (n : Int) := by
  obtain ⟨m, rfl⟩ := Nat.exists_eq_add_of_le h
  have hm := zMid_in (ss := ss) (n := 1 + m) m
  have e : zMid ss (1 + m) (m + 1) = if (zPlaceN ss m (1 + m) : Int) = (((1 + m : Nat) : Int) - 1) / 2 then (m : Int) else zMid ss (1 + m) m := rfl
  rw [Nat.add_comm m 1] at e
  rw [e]; split <;> omega
section M4
variable {w ks ss : Int → Int} {n : Nat} {la su nm np ns : Int → Int} {sz : Nat} {tp : Int → Int} {tn pl : Nat} {rs : Int} {rd : Int → Int} {lp ik : Int} {kp : Int → Int} {km kn : Int} {ln rz it : Int → Int}
theorem c_Mo_farthest {x sum near : Int} {p : Nat → Bool} (hx : -2147483648 ≤ x ∧ x ≤ 2147483647) (hp : ∀ k, k < 9 → (zBit x k ↔ p k = true)) (hn : n ≤ 9) (hS : zOkS ss n) (hs : 0 ≤ sum ∧ sum ≤ 20) (hla : 0 ≤ la 1 ∧ la 1 ≤ 2) (hz : near = 0 ∨ near = 1) :
    zMet m_Mo_farthest [.inr (.inr 0), .inl x, .inl sum, .inl near] (wMo w ks ss n la su nm np ns sz tp tn pl rs rd lp ik kp km kn ln rz it) (fun v wd => v = some (.inl (zFm ss n (la 1) near sum p)) ∧ wd = wMo w ks ss n la su nm np ns sz tp tn pl rs rd lp ik kp km kn ln rz it) := by
  refine zMet.of (own := RX7) rfl (by decide +kernel) tk_Mo_farthest fok_Mo cok_Mo (Nat.le_of_ble_eq_true rfl) (fun G hG => ?_)
  refine hG.1 [9] 80 _ _ _ _ ?_
  refine z_up0 (n := n) (P := fun i : Nat => G 9 [(0, .inr (.inr 0)), (1, .inl x), (2, .inl sum), (3, .inl near), (4, .inl (zFar near ss sum p i).1), (5, .inl ((zFar near ss sum p i).2 : Int)), (6, .inl (i : Int))] [] (wMo w ks ss n la su nm np ns sz tp tn pl rs rd lp ik kp km kn ln rz it)) ?_ (fun i hi ih => ?_)
  · have hf := zFar_in (near := near) (p := p) hS hs n (Nat.le_refl n)
    have hf2 : 2 ^ n ≤ 2 ^ 9 := Nat.pow_le_pow_right (by omega) hn
    have e9 : 2 ^ 9 = 512 := by decide
    refine hG.1 [] 80 _ _ _ _ ?_
    refine ⟨by omega, fun q => ?_, fun q => absurd q (by omega)⟩
    refine ⟨by omega, by omega, fun h1 => ?_, fun h1 => ?_⟩
    · refine hG.2.1 (c_Mo_oneOf (x := ((zFar near ss sum p n).2 : Int)) (p := fun k => decide (zBit ((zFar near ss sum p n).2 : Int) k)) (by omega) (fun k _ => (decide_eq_true_iff).symm) hla) yv_Mo_oneOf lk_Mo_136 (by decide +kernel) rfl rfl [0, 1, 2, 3, 4, 5, 6, 7, 8, 9, 10, 11, 12, 13, 14] (by decide +kernel) rfl rfl rfl (Nat.le_of_ble_eq_true rfl) (fun v w2 hv hl2 => ?_)
      obtain ⟨rfl, rfl⟩ := hv
      change G _ _ _ (wMo w ks ss n la su nm np ns sz tp tn pl rs rd lp ik kp km kn ln rz it)
      refine hG.1 [] 80 _ _ _ _ ?_
      exact ⟨trivial, by rw [zFm, if_neg h1, zOne], rfl⟩
    · exact ⟨trivial, by rw [zFm, if_pos h1], rfl⟩
  · have hf := zFar_in (near := near) (p := p) hS hs i (by omega)
    have hb := z_bits1 i (by omega) (zFar near ss sum p i).2 hf.2
    have h2 := z_p2 i (by omega)
    have hd := zDst_in (near := near) (hS i hi) hs
    have e : zFar near ss sum p (i + 1) = if p i = true then (if (zFar near ss sum p i).1 < zDst near ss sum i then (zDst near ss sum i, 2 ^ i) else if zDst near ss sum i = (zFar near ss sum p i).1 then ((zFar near ss sum p i).1, (zFar near ss sum p i).2 + 2 ^ i) else zFar near ss sum p i) else zFar near ss sum p i := rfl
    refine hG.1 [] 80 _ _ _ _ ?_
    refine ⟨by omega, fun q => absurd q (by omega), fun q => ?_⟩
    refine hG.2.2.1 (c_Mo_has (x := x) (g := i) hx (by omega)) ys_Mo_has (Or.inl lk_Mo_129) (by decide +kernel) rfl [] (by decide +kernel) rfl rfl rfl (Nat.le_of_ble_eq_true rfl) (fun v w2 hv hl2 => ?_)
    obtain ⟨⟨hc, rfl⟩ | ⟨hc, rfl⟩, rfl⟩ := hv
    · change G _ _ _ (wMo w ks ss n la su nm np ns sz tp tn pl rs rd lp ik kp km kn ln rz it)
      rw [e, if_pos ((hp i (by omega)).mp hc)] at ih
      have tail : G 51 [(0, .inr (.inr 0)), (1, .inl x), (2, .inl sum), (3, .inl near), (4, .inl (zFar near ss sum p i).1), (5, .inl ((zFar near ss sum p i).2 : Int)), (6, .inl (i : Int))] [.inl (zDst near ss sum i)] (wMo w ks ss n la su nm np ns sz tp tn pl rs rd lp ik kp km kn ln rz it) := by
        refine hG.1 [9] 80 _ _ _ _ ?_
        refine ⟨by omega, fun q1 => ?_, fun q1 => ?_⟩
        · refine ⟨by omega, fun q2 => ?_, fun q2 => ?_⟩
          · rw [if_neg (by omega), if_neg q2] at ih
            refine ⟨by omega, fun q3 => ?_, fun q3 => absurd q3 (by omega)⟩
            exact hG.2.2.2.2.1 (fun q hq => List.mem_append_left _ hq) ih
          · rw [if_neg (by omega), if_pos q2] at ih
            have ih2 : G 9 [(0, .inr (.inr 0)), (1, .inl x), (2, .inl sum), (3, .inl near), (4, .inl (zFar near ss sum p i).1), (5, .inl (((zFar near ss sum p i).2 + 2 ^ i : Nat) : Int)), (6, .inl ((i + 1 : Nat) : Int))] [] (wMo w ks ss n la su nm np ns sz tp tn pl rs rd lp ik kp km kn ln rz it) := ih
            rw [← hb] at ih2
            refine ⟨by omega, by omega, fun q3 => ?_, fun q3 => absurd q3 (by omega)⟩
            exact hG.2.2.2.2.1 (fun q hq => List.mem_append_left _ hq) ih2
        · rw [if_pos q1] at ih
          have ih2 : G 9 [(0, .inr (.inr 0)), (1, .inl x), (2, .inl sum), (3, .inl near), (4, .inl (zDst near ss sum i)), (5, .inl ((2 ^ i : Nat) : Int)), (6, .inl ((i + 1 : Nat) : Int))] [] (wMo w ks ss n la su nm np ns sz tp tn pl rs rd lp ik kp km kn ln rz it) := ih
          rw [← h2] at ih2
          refine ⟨by omega, by omega, fun q3 => absurd q3 (by omega), fun q3 => ?_⟩
          exact hG.2.2.2.2.1 (fun q hq => List.mem_append_left _ hq) ih2
      refine hG.1 [51] 80 _ _ _ _ ?_
      refine ⟨by omega, fun q => absurd q (by omega), fun q => ?_⟩
      refine ⟨by omega, fun q1 => ?_, fun q1 => ?_⟩
      · refine hG.2.1 (c_Mo_off (g := i) (sum := sum) (by omega) (hS i hi) hs) yv_Mo_off lk_Mo_133 (by decide +kernel) rfl rfl [0, 1, 2, 3, 4, 5, 6, 7, 8, 9, 10, 11, 12, 13, 14] (by decide +kernel) rfl rfl rfl (Nat.le_of_ble_eq_true rfl) (fun v w2 hv hl2 => ?_)
        obtain ⟨rfl, rfl⟩ := hv
        change G _ _ _ (wMo w ks ss n la su nm np ns sz tp tn pl rs rd lp ik kp km kn ln rz it)
        rw [zDst, if_pos q1] at tail
        exact tail
      · refine hG.2.1 (c_Mo_off (g := i) (sum := sum) (by omega) (hS i hi) hs) yv_Mo_off lk_Mo_133 (by decide +kernel) rfl rfl [0, 1, 2, 3, 4, 5, 6, 7, 8, 9, 10, 11, 12, 13, 14] (by decide +kernel) rfl rfl rfl (Nat.le_of_ble_eq_true rfl) (fun v w2 hv hl2 => ?_)
        obtain ⟨rfl, rfl⟩ := hv
        change G _ _ _ (wMo w ks ss n la su nm np ns sz tp tn pl rs rd lp ik kp km kn ln rz it)
        rw [zDst, if_neg q1] at tail
        refine hG.1 [51] 80 _ _ _ _ ?_
        exact tail
    · change G _ _ _ (wMo w ks ss n la su nm np ns sz tp tn pl rs rd lp ik kp km kn ln rz it)
      rw [e, if_neg (fun z => hc ((hp i (by omega)).mpr z))] at ih
      refine hG.1 [9] 80 _ _ _ _ ?_
      refine ⟨by omega, fun q => ?_, fun q => absurd rfl q⟩
      exact ih
theorem c_Mo_payers {sum : Int} (hn1 : 1 ≤ n) (hn : n ≤ 9) (hS : zOkS ss n) (hs : 0 ≤ sum ∧ sum ≤ 20) (hlw : 0 ≤ la 0 ∧ la 0 ≤ 3) (hla : 0 ≤ la 1 ∧ la 1 ≤ 2) :
    zMet m_Mo_payers [.inr (.inr 0), .inl sum] (wMo w ks ss n la su nm np ns sz tp tn pl rs rd lp ik kp km kn ln rz it) (fun v wd => v = some (.inl (zPyM ss n (la 0) (la 1) sum)) ∧ wd = wMo w ks ss n la su nm np ns sz tp tn pl rs rd lp ik kp km kn ln rz it) := by
  have hA := z_allR n (by omega)
  have hB := fun k (hk : k < 9) => z_allB n (by omega) k hk
  have hF := zFst_in (ss := ss) (ties := la 1) (sum := sum) (p := fun k => decide (k < n)) n
  have hF0 := zFst_pos (ss := ss) (ties := la 1) (sum := sum) (p := fun k => decide (k < n)) (k := 0) (decide_eq_true (by omega)) n (by omega)
  have hM := zMid_in (ss := ss) (n := n) n
  have hM2 := zMid_lt (ss := ss) hn1
  refine zMet.of (own := RX7) rfl (by decide +kernel) tk_Mo_payers fok_Mo cok_Mo (Nat.le_of_ble_eq_true rfl) (fun G hG => ?_)
  refine hG.1 [84] 80 _ _ _ _ ?_
  refine ⟨by omega, by omega, by omega, fun h1 => ?_, fun h1 => ?_⟩
  · have last : ∀ X p (near : Int), (-2147483648 ≤ X ∧ X ≤ 2147483647) → (∀ k, k < 9 → (zBit X k ↔ p k = true)) → zFm ss n (la 1) (if la 0 = 1 then 1 else 0) sum p = zPyM ss n (la 0) (la 1) sum → G 84 [(0, .inr (.inr 0)), (1, .inl sum), (2, .inl X)] [] (wMo w ks ss n la su nm np ns sz tp tn pl rs rd lp ik kp km kn ln rz it) := by
      intro X p near hX hp he
      refine hG.1 [] 80 _ _ _ _ ?_
      refine ⟨by omega, by omega, fun q => ?_, fun q => ?_⟩
      · rw [if_neg q] at he
        refine hG.2.1 (c_Mo_farthest (x := X) (sum := sum) (near := 0) (p := p) hX hp hn hS hs hla (Or.inl rfl)) yv_Mo_farthest lk_Mo_146 (by decide +kernel) rfl rfl [0, 1, 2, 3, 4, 5, 6, 7, 8, 9, 10, 11, 12, 13, 14] (by decide +kernel) rfl rfl rfl (Nat.le_of_ble_eq_true rfl) (fun v w2 hv hl2 => ?_)
        obtain ⟨rfl, rfl⟩ := hv
        change G _ _ _ (wMo w ks ss n la su nm np ns sz tp tn pl rs rd lp ik kp km kn ln rz it)
        refine hG.1 [] 80 _ _ _ _ ?_
        exact ⟨trivial, by rw [he], rfl⟩
      · rw [if_pos q] at he
        refine hG.2.1 (c_Mo_farthest (x := X) (sum := sum) (near := 1) (p := p) hX hp hn hS hs hla (Or.inr rfl)) yv_Mo_farthest lk_Mo_146 (by decide +kernel) rfl rfl [0, 1, 2, 3, 4, 5, 6, 7, 8, 9, 10, 11, 12, 13, 14] (by decide +kernel) rfl rfl rfl (Nat.le_of_ble_eq_true rfl) (fun v w2 hv hl2 => ?_)
        obtain ⟨rfl, rfl⟩ := hv
        change G _ _ _ (wMo w ks ss n la su nm np ns sz tp tn pl rs rd lp ik kp km kn ln rz it)
        refine hG.1 [] 80 _ _ _ _ ?_
        exact ⟨trivial, by rw [he], rfl⟩
    refine ⟨by omega, by omega, fun h2 => ?_, fun h2 => ?_⟩
    · exact last _ (fun k => decide (k < n)) 0 hA hB (by rw [zPyM, if_neg h1, if_neg (show ¬ (la 0 = 3 ∧ 1 < n) from fun z => h2 z.1)])
    · refine ⟨by omega, fun h3 => ?_, fun h3 => ?_⟩
      · exact last _ (fun k => decide (k < n)) 0 hA hB (by rw [zPyM, if_neg h1, if_neg (show ¬ (la 0 = 3 ∧ 1 < n) from fun z => absurd z.2 (by omega))])
      · refine hG.2.1 (c_Mo_middle hn hS) yv_Mo_middle lk_Mo_143 (by decide +kernel) rfl rfl [0, 1, 2, 3, 4, 5, 6, 7, 8, 9, 10, 11, 12, 13, 14] (by decide +kernel) rfl rfl rfl (Nat.le_of_ble_eq_true rfl) (fun v w2 hv hl2 => ?_)
        obtain ⟨rfl, rfl⟩ := hv
        obtain ⟨j, hj⟩ := z_nat hM.1
        have hp := last _ (fun k => decide (k < n ∧ k ≠ j)) 0 (z_and_in (1 * 2 ^ (n : Int).toNat - 1) (z_xor (1 * 2 ^ (j : Int).toNat) (-1))) (fun k hk => z_butB n (by omega) j (by omega) k hk) (by rw [zPyM, if_neg h1, if_pos (show la 0 = 3 ∧ 1 < n from ⟨h2, by omega⟩), if_neg (show ¬ la 0 = 1 by omega), hj] <;> rfl)
        rw [hj]
        change G _ _ _ (wMo w ks ss n la su nm np ns sz tp tn pl rs rd lp ik kp km kn ln rz it)
        refine hG.1 [84] 80 _ _ _ _ ?_
        exact ⟨by omega, hp⟩
  · obtain ⟨j, hj⟩ := z_nat hF0
    refine hG.2.1 (c_Mo_firstOff (x := 1 * 2 ^ (n : Int).toNat - 1) (sum := sum) (p := fun k => decide (k < n)) hA hB hn hS hs hla) yv_Mo_firstOff lk_Mo_140 (by decide +kernel) rfl rfl [0, 1, 2, 3, 4, 5, 6, 7, 8, 9, 10, 11, 12, 13, 14] (by decide +kernel) rfl rfl rfl (Nat.le_of_ble_eq_true rfl) (fun v w2 hv hl2 => ?_)
    obtain ⟨rfl, rfl⟩ := hv
    rw [hj]
    change G _ _ _ (wMo w ks ss n la su nm np ns sz tp tn pl rs rd lp ik kp km kn ln rz it)
    refine hG.1 [] 80 _ _ _ _ ?_
    refine ⟨by omega, by omega, fun h2 => ?_, fun h2 => ?_⟩
    · have hk : ∃ k, k < n ∧ k ≠ j := by
        by_cases h0 : j = 0
        · exact ⟨1, by omega, by omega⟩
        · exact ⟨0, by omega, by omega⟩
      obtain ⟨k0, hk0⟩ := hk
      have hG0 := zFst_pos (ss := ss) (ties := la 1) (sum := sum) (p := fun k => decide (k < n ∧ k ≠ j)) (k := k0) (decide_eq_true hk0) n hk0.1
      have hG1 := zFst_in (ss := ss) (ties := la 1) (sum := sum) (p := fun k => decide (k < n ∧ k ≠ j)) n
      refine hG.2.1 (c_Mo_firstOff (x := z_and (1 * 2 ^ (n : Int).toNat - 1) (z_xor (1 * 2 ^ (j : Int).toNat) (-1))) (sum := sum) (p := fun k => decide (k < n ∧ k ≠ j)) (z_and_in (1 * 2 ^ (n : Int).toNat - 1) (z_xor (1 * 2 ^ (j : Int).toNat) (-1))) (fun k hk => z_butB n (by omega) j (by omega) k hk) hn hS hs hla) yv_Mo_firstOff lk_Mo_140 (by decide +kernel) rfl rfl [0, 1, 2, 3, 4, 5, 6, 7, 8, 9, 10, 11, 12, 13, 14] (by decide +kernel) rfl rfl rfl (Nat.le_of_ble_eq_true rfl) (fun v w2 hv hl2 => ?_)
      obtain ⟨rfl, rfl⟩ := hv
      change G _ _ _ (wMo w ks ss n la su nm np ns sz tp tn pl rs rd lp ik kp km kn ln rz it)
      refine hG.1 [] 80 _ _ _ _ ?_
      exact ⟨by omega, trivial, by rw [zPyM, if_pos h1, if_neg (by omega), hj] <;> rfl, rfl⟩
    · exact ⟨trivial, by rw [zPyM, if_pos h1, if_pos (by omega), hj] <;> rfl, rfl⟩
end M4
end
section
/-! THE REFERENCE: lowest terms -/
theorem c_Mo_common {t b : Nat} (ht : t < 1152921504606846976) (hb : b < 1152921504606846976) : zMet m_Mo_common [.inr (.inl (t : Int)), .inr (.inl (b : Int))] [] (fun v w => v = some (.inr (.inl ((Nat.gcd t b : Nat) : Int))) ∧ w = []) := by
  refine zMet.of (own := RX7) rfl (by decide +kernel) tk_Mo_common fok_Mo cok_Mo (Nat.le_of_ble_eq_true rfl) (fun G hG => ?_)
  refine hG.1 [6] 80 _ _ _ _ ?_
  have key : ∀ m c r : Nat, r < m → c < 1152921504606846976 → r < 1152921504606846976 → Nat.gcd c r = Nat.gcd t b → G 6 [(0, .inr (.inl (t : Int))), (2, .inr (.inl (b : Int))), (4, .inr (.inl (c : Int))), (6, .inr (.inl (r : Int)))] [] [] := by
    intro m
    induction m with
    | zero => intro c r h; omega
    | succ m ih =>
      intro c r h hc hr he
      refine hG.1 [6] 80 _ _ _ _ ?_
      refine ⟨by omega, fun q => ?_, fun q => ?_⟩
      · have h0 : r = 0 := by omega
        subst h0
        rw [Nat.gcd_zero_right] at he
        exact ⟨trivial, by rw [he], rfl⟩
      · have hm : c % r < r := Nat.mod_lt _ (by omega)
        have hg : Nat.gcd r (c % r) = Nat.gcd t b := by
          rw [← he, Nat.gcd_comm c r, Nat.gcd_rec r c, Nat.gcd_comm]
        have h6 := ih r (c % r) (by omega) hr (by omega) hg
        rw [Int.natCast_emod] at h6
        exact ⟨by omega, hG.2.2.2.2.1 (fun q hq => List.mem_append_left _ hq) h6⟩
  exact key (b + 1) t b (by omega) ht hb rfl
theorem c_Mo_part {t b : Nat} {part : Int} (ht : t < 1152921504606846976) (hb : 0 < b ∧ b < 1152921504606846976) (hp : part = 0 ∨ part = 1) : zMet m_Mo_part [.inr (.inl (t : Int)), .inr (.inl (b : Int)), .inl part] [] (fun v w => v = some (.inr (.inl (zLow t b part))) ∧ w = []) := by
  have hgpos : 0 < Nat.gcd t b := Nat.gcd_pos_of_pos_right _ hb.1
  have hgle : Nat.gcd t b ≤ b := Nat.gcd_le_right _ hb.1
  refine zMet.of (own := RX7) rfl (by decide +kernel) tk_Mo_part fok_Mo cok_Mo (Nat.le_of_ble_eq_true rfl) (fun G hG => ?_)
  refine hG.1 [] 80 _ _ _ _ ?_
  refine ⟨by omega, fun h1 => ?_, fun h1 => ?_⟩
  · refine hG.2.2.1 (c_Mo_common (t := t) (b := b) ht hb.2) ys_Mo_common (Or.inl lk_Mo_156) (by decide +kernel) rfl [] (by decide +kernel) rfl rfl rfl (Nat.le_of_ble_eq_true rfl) (fun v w2 hv hl2 => ?_)
    obtain ⟨rfl, rfl⟩ := hv
    refine hG.1 [] 80 _ _ _ _ ?_
    refine ⟨by omega, trivial, ?_, rfl⟩
    rw [zLow, if_neg h1, Int.natCast_ediv, Nat.gcd_comm b t]
  · refine hG.2.2.1 (c_Mo_common (t := t) (b := b) ht hb.2) ys_Mo_common (Or.inl lk_Mo_156) (by decide +kernel) rfl [] (by decide +kernel) rfl rfl rfl (Nat.le_of_ble_eq_true rfl) (fun v w2 hv hl2 => ?_)
    obtain ⟨rfl, rfl⟩ := hv
    refine hG.1 [] 80 _ _ _ _ ?_
    refine ⟨by omega, trivial, ?_, rfl⟩
    rw [zLow, if_pos h1, Int.natCast_ediv, Nat.gcd_comm b t]
end
section
/-! THE REFERENCE: sets of sums, sheets, three guests, drop -/
theorem c_Mo_areSums {x : Int} (hx : -2147483648 ≤ x ∧ x ≤ 2147483647) : zMet m_Mo_areSums [.inl x] [] (fun v w => z_bool (0 < x ∧ x < 2097152) v ∧ w = []) := by
  refine zMet.of (own := RX7) rfl (by decide +kernel) tk_Mo_areSums fok_Mo cok_Mo (Nat.le_of_ble_eq_true rfl) (fun G hG => ?_)
  refine hG.1 [] 80 _ _ _ _ ?_
  refine ⟨by omega, ?_⟩
  refine hG.2.2.1 (c_Mo_in (a := x) (b := 1) (c := 2097151) (by omega) (by omega) (by omega)) ys_Mo_in (Or.inl lk_Mo_55) (by decide +kernel) rfl [] (by decide +kernel) rfl rfl rfl (Nat.le_of_ble_eq_true rfl) (fun v w2 hv hl2 => ?_)
  obtain ⟨⟨hc, rfl⟩ | ⟨hc, rfl⟩, rfl⟩ := hv
  · refine hG.1 [] 80 _ _ _ _ ?_
    exact ⟨Or.inr rfl, Or.inl ⟨by omega, rfl⟩, rfl⟩
  · refine hG.1 [] 80 _ _ _ _ ?_
    exact ⟨Or.inl rfl, Or.inr ⟨by omega, rfl⟩, rfl⟩
theorem c_Mo_isSheet {x l : Int} (hx : -2147483648 ≤ x ∧ x ≤ 2147483647) (hl : -2147483648 ≤ l ∧ l ≤ 2147483647) : zMet m_Mo_isSheet [.inl x, .inl l] [] (fun v w => z_bool ((0 ≤ x ∧ x < 4) ∧ (0 ≤ l ∧ l ≤ 2)) v ∧ w = []) := by
  refine zMet.of (own := RX7) rfl (by decide +kernel) tk_Mo_isSheet fok_Mo cok_Mo (Nat.le_of_ble_eq_true rfl) (fun G hG => ?_)
  refine hG.1 [] 80 _ _ _ _ ?_
  refine ⟨by omega, ?_⟩
  refine hG.2.2.1 (c_Mo_in (a := x) (b := 0) (c := 3) (by omega) (by omega) (by omega)) ys_Mo_in (Or.inl lk_Mo_55) (by decide +kernel) rfl [] (by decide +kernel) rfl rfl rfl (Nat.le_of_ble_eq_true rfl) (fun v w2 hv hl2 => ?_)
  obtain ⟨⟨hc, rfl⟩ | ⟨hc, rfl⟩, rfl⟩ := hv
  · refine hG.1 [] 80 _ _ _ _ ?_
    refine ⟨by omega, fun q => absurd q (by omega), fun q => ?_⟩
    refine ⟨by omega, ?_⟩
    refine hG.2.2.1 (c_Mo_in (a := l) (b := 0) (c := 2) (by omega) (by omega) (by omega)) ys_Mo_in (Or.inl lk_Mo_55) (by decide +kernel) rfl [] (by decide +kernel) rfl rfl rfl (Nat.le_of_ble_eq_true rfl) (fun v w2 hv hl2 => ?_)
    obtain ⟨⟨hd, rfl⟩ | ⟨hd, rfl⟩, rfl⟩ := hv
    · refine hG.1 [] 80 _ _ _ _ ?_
      refine ⟨by omega, fun q => absurd q (by omega), fun q => ?_⟩
      exact ⟨Or.inr rfl, Or.inl ⟨by omega, rfl⟩, rfl⟩
    · refine hG.1 [] 80 _ _ _ _ ?_
      refine ⟨by omega, fun q => ?_, fun q => absurd rfl q⟩
      exact ⟨Or.inl rfl, Or.inr ⟨fun z => hd z.2, rfl⟩, rfl⟩
  · refine hG.1 [] 80 _ _ _ _ ?_
    refine ⟨by omega, fun q => ?_, fun q => absurd rfl q⟩
    exact ⟨Or.inl rfl, Or.inr ⟨fun z => hc (by omega), rfl⟩, rfl⟩
section M6
variable {w ks ss : Int → Int} {n : Nat} {la su nm np ns : Int → Int} {sz : Nat} {tp : Int → Int} {tn pl : Nat} {rs : Int} {rd : Int → Int} {lp ik : Int} {kp : Int → Int} {km kn : Int} {ln rz it : Int → Int}
theorem c_Mo_drop {x : Int} (hx : -2147483648 ≤ x ∧ x ≤ 2147483647) (hl : ∀ i : Nat, i < 4 → -1 ≤ ln i ∧ ln i ≤ 2) :
    zMet m_Mo_drop [.inr (.inr 0), .inl x] (wMo w ks ss n la su nm np ns sz tp tn pl rs rd lp ik kp km kn ln rz it) (fun v wd => ((0 ≤ x ∧ x < 4) ∧ 0 ≤ ln x ∧ v = some (.inl (rz x)) ∧ wd = wMo w ks ss n la su nm np ns sz tp tn pl rs rd lp ik kp km kn (z_u ln x (-1)) rz it) ∨ ((0 ≤ x ∧ x < 4) ∧ ln x < 0 ∧ v = some (.inl (-11)) ∧ wd = wMo w ks ss n la su nm np ns sz tp tn pl rs rd lp ik kp km kn ln rz it) ∨ (¬ (0 ≤ x ∧ x < 4) ∧ v = some (.inl (-1)) ∧ wd = wMo w ks ss n la su nm np ns sz tp tn pl rs rd lp ik kp km kn ln rz it)) := by
  refine zMet.of (own := RX7) rfl (by decide +kernel) tk_Mo_drop fok_Mo cok_Mo (Nat.le_of_ble_eq_true rfl) (fun G hG => ?_)
  refine hG.1 [] 80 _ _ _ _ ?_
  refine ⟨by omega, ?_⟩
  refine hG.2.2.1 (c_Mo_in (a := x) (b := 0) (c := 3) (by omega) (by omega) (by omega)) ys_Mo_in (Or.inl lk_Mo_55) (by decide +kernel) rfl [] (by decide +kernel) rfl rfl rfl (Nat.le_of_ble_eq_true rfl) (fun v w2 hv hl2 => ?_)
  obtain ⟨⟨hc, rfl⟩ | ⟨hc, rfl⟩, rfl⟩ := hv
  · change G _ _ _ (wMo w ks ss n la su nm np ns sz tp tn pl rs rd lp ik kp km kn ln rz it)
    obtain ⟨i, rfl⟩ := z_nat hc.1
    have hi := hl i (by omega)
    refine hG.1 [] 80 _ _ _ _ ?_
    refine ⟨by omega, fun q => ?_, fun q => absurd q (by omega)⟩
    refine ⟨by omega, by omega, fun h1 => ?_, fun h1 => ?_⟩
    · exact ⟨by omega, by omega, trivial, Or.inl ⟨by omega, h1, rfl, rfl⟩⟩
    · exact ⟨trivial, Or.inr (Or.inl ⟨by omega, h1, rfl, rfl⟩)⟩
  · change G _ _ _ (wMo w ks ss n la su nm np ns sz tp tn pl rs rd lp ik kp km kn ln rz it)
    refine hG.1 [] 80 _ _ _ _ ?_
    refine ⟨by omega, fun q => absurd rfl q, fun q => ?_⟩
    exact ⟨trivial, Or.inr (Or.inr ⟨by omega, rfl, rfl⟩)⟩
end M6
end
section
/-! THE REFERENCE: three guests -/
section M7
variable {w ks ss : Int → Int} {n : Nat} {la su nm np ns : Int → Int} {sz : Nat} {tp : Int → Int} {tn pl : Nat} {rs : Int} {rd : Int → Int} {lp ik : Int} {kp : Int → Int} {km kn : Int} {ln rz it : Int → Int}
theorem c_Mo_areThree {a b c : Int} (ha : -2147483648 ≤ a ∧ a ≤ 2147483647) (hb : -2147483648 ≤ b ∧ b ≤ 2147483647) (hc : -2147483648 ≤ c ∧ c ≤ 2147483647) (hn : n ≤ 9) :
    zMet m_Mo_areThree [.inr (.inr 0), .inl a, .inl b, .inl c] (wMo w ks ss n la su nm np ns sz tp tn pl rs rd lp ik kp km kn ln rz it) (fun v wd => z_bool (z3 n a b c) v ∧ wd = wMo w ks ss n la su nm np ns sz tp tn pl rs rd lp ik kp km kn ln rz it) := by
  refine zMet.of (own := RX7) rfl (by decide +kernel) tk_Mo_areThree fok_Mo cok_Mo (Nat.le_of_ble_eq_true rfl) (fun G hG => ?_)
  refine hG.1 [] 80 _ _ _ _ ?_
  refine hG.2.1 (c_Mo_isGuest (g := a) ha hn) yv_Mo_isGuest lk_Mo_75 (by decide +kernel) rfl rfl [0, 1, 2, 3, 4, 5, 6, 7, 8, 9, 10, 11, 12, 13, 14] (by decide +kernel) rfl rfl rfl (Nat.le_of_ble_eq_true rfl) (fun v w2 hv hl2 => ?_)
  obtain ⟨⟨h1, rfl⟩ | ⟨h1, rfl⟩, rfl⟩ := hv
  · change G _ _ _ (wMo w ks ss n la su nm np ns sz tp tn pl rs rd lp ik kp km kn ln rz it)
    refine hG.1 [] 80 _ _ _ _ ?_
    refine ⟨by omega, fun q => absurd q (by omega), fun q => ?_⟩
    refine hG.2.1 (c_Mo_isGuest (g := b) hb hn) yv_Mo_isGuest lk_Mo_75 (by decide +kernel) rfl rfl [0, 1, 2, 3, 4, 5, 6, 7, 8, 9, 10, 11, 12, 13, 14] (by decide +kernel) rfl rfl rfl (Nat.le_of_ble_eq_true rfl) (fun v w2 hv hl2 => ?_)
    obtain ⟨⟨h2, rfl⟩ | ⟨h2, rfl⟩, rfl⟩ := hv
    · change G _ _ _ (wMo w ks ss n la su nm np ns sz tp tn pl rs rd lp ik kp km kn ln rz it)
      refine hG.1 [] 80 _ _ _ _ ?_
      refine ⟨by omega, fun q => absurd q (by omega), fun q => ?_⟩
      refine hG.2.1 (c_Mo_isGuest (g := c) hc hn) yv_Mo_isGuest lk_Mo_75 (by decide +kernel) rfl rfl [0, 1, 2, 3, 4, 5, 6, 7, 8, 9, 10, 11, 12, 13, 14] (by decide +kernel) rfl rfl rfl (Nat.le_of_ble_eq_true rfl) (fun v w2 hv hl2 => ?_)
      obtain ⟨⟨h3, rfl⟩ | ⟨h3, rfl⟩, rfl⟩ := hv
      · change G _ _ _ (wMo w ks ss n la su nm np ns sz tp tn pl rs rd lp ik kp km kn ln rz it)
        refine hG.1 [] 80 _ _ _ _ ?_
        refine ⟨by omega, fun q => absurd q (by omega), fun q => ?_⟩
        refine ⟨by omega, fun q1 => ?_, fun q1 => ?_⟩
        · exact ⟨Or.inl rfl, Or.inr ⟨fun z => by have := z.2.2.2.1; omega, rfl⟩, rfl⟩
        · refine ⟨by omega, fun q2 => ?_, fun q2 => ?_⟩
          · exact ⟨Or.inl rfl, Or.inr ⟨fun z => by have := z.2.2.2.2.1; omega, rfl⟩, rfl⟩
          · refine ⟨by omega, fun q3 => ?_, fun q3 => ?_⟩
            · exact ⟨Or.inl rfl, Or.inr ⟨fun z => by have := z.2.2.2.2.2; omega, rfl⟩, rfl⟩
            · exact ⟨Or.inr rfl, Or.inl ⟨⟨h1, h2, h3, q1, q2, q3⟩, rfl⟩, rfl⟩
      · change G _ _ _ (wMo w ks ss n la su nm np ns sz tp tn pl rs rd lp ik kp km kn ln rz it)
        refine hG.1 [] 80 _ _ _ _ ?_
        refine ⟨by omega, fun q => ?_, fun q => absurd rfl q⟩
        exact ⟨Or.inl rfl, Or.inr ⟨fun z => h3 z.2.2.1, rfl⟩, rfl⟩
    · change G _ _ _ (wMo w ks ss n la su nm np ns sz tp tn pl rs rd lp ik kp km kn ln rz it)
      refine hG.1 [] 80 _ _ _ _ ?_
      refine ⟨by omega, fun q => ?_, fun q => absurd rfl q⟩
      exact ⟨Or.inl rfl, Or.inr ⟨fun z => h2 z.2.1, rfl⟩, rfl⟩
  · change G _ _ _ (wMo w ks ss n la su nm np ns sz tp tn pl rs rd lp ik kp km kn ln rz it)
    refine hG.1 [] 80 _ _ _ _ ?_
    refine ⟨by omega, fun q => ?_, fun q => absurd rfl q⟩
    exact ⟨Or.inl rfl, Or.inr ⟨fun z => h1 z.1, rfl⟩, rfl⟩
def zWas (nm : Int → Int) (g : Int) : Nat → Prop
  | 0 => True
  | k + 1 => zWas nm g k ∧ g < nm k
theorem c_Mo_wasThere {g : Nat} (hg : g < 9) (hz : sz ≤ 12) (hN : ∀ i : Nat, i < sz → 0 ≤ nm i ∧ nm i ≤ 9) :
    zMet m_Mo_wasThere [.inr (.inr 0), .inl (g : Int)] (wMo w ks ss n la su nm np ns sz tp tn pl rs rd lp ik kp km kn ln rz it) (fun v wd => z_bool (0 < sz ∧ zWas nm g sz) v ∧ wd = wMo w ks ss n la su nm np ns sz tp tn pl rs rd lp ik kp km kn ln rz it) := by
  refine zMet.of (own := RX7) rfl (by decide +kernel) tk_Mo_wasThere fok_Mo cok_Mo (Nat.le_of_ble_eq_true rfl) (fun G hG => ?_)
  refine hG.1 [15] 80 _ _ _ _ ?_
  have key : ∀ f : Int, z_bool (0 < sz ∧ zWas nm g 0) (some (.inl f)) → G 15 [(0, .inr (.inr 0)), (1, .inl (g : Int)), (2, .inl f), (3, .inl ((0 : Nat) : Int))] [] (wMo w ks ss n la su nm np ns sz tp tn pl rs rd lp ik kp km kn ln rz it) := by
    refine z_up0 (n := sz) (P := fun i : Nat => ∀ f : Int, z_bool (0 < sz ∧ zWas nm g i) (some (.inl f)) → G 15 [(0, .inr (.inr 0)), (1, .inl (g : Int)), (2, .inl f), (3, .inl (i : Int))] [] (wMo w ks ss n la su nm np ns sz tp tn pl rs rd lp ik kp km kn ln rz it)) (fun f hf => ?_) (fun i hi ih f hf => ?_)
    · rcases hf with ⟨hc, hv⟩ | ⟨hc, hv⟩
      · obtain rfl : f = 1 := by injection hv with hv; injection hv
        refine hG.1 [] 80 _ _ _ _ ?_
        refine ⟨by omega, fun q => ?_, fun q => absurd q (by omega)⟩
        exact ⟨Or.inr rfl, Or.inl ⟨hc, rfl⟩, rfl⟩
      · obtain rfl : f = 0 := by injection hv with hv; injection hv
        refine hG.1 [] 80 _ _ _ _ ?_
        refine ⟨by omega, fun q => ?_, fun q => absurd q (by omega)⟩
        exact ⟨Or.inl rfl, Or.inr ⟨hc, rfl⟩, rfl⟩
    · have hNi := hN i hi
      rcases hf with ⟨hc, hv⟩ | ⟨hc, hv⟩
      · obtain rfl : f = 1 := by injection hv with hv; injection hv
        refine hG.1 [15] 80 _ _ _ _ ?_
        refine ⟨by omega, fun q => absurd q (by omega), fun q => ?_⟩
        refine ⟨by omega, fun q => absurd q (by omega), fun q => ?_⟩
        refine ⟨by omega, by omega, fun h1 => ?_, fun h1 => ?_⟩
        · exact ih 0 (Or.inr ⟨fun z => by have := z.2.2; omega, rfl⟩)
        · exact ih 1 (Or.inl ⟨⟨hc.1, hc.2, h1⟩, rfl⟩)
      · obtain rfl : f = 0 := by injection hv with hv; injection hv
        refine hG.1 [15] 80 _ _ _ _ ?_
        refine ⟨by omega, fun q => absurd q (by omega), fun q => ?_⟩
        refine ⟨by omega, fun q => ?_, fun q => absurd rfl q⟩
        exact ih 0 (Or.inr ⟨fun z => hc ⟨z.1, z.2.1⟩, rfl⟩)
  refine ⟨by omega, fun q => ?_, fun q => ?_⟩
  · exact key 0 (Or.inr ⟨fun z => by have := z.1; omega, rfl⟩)
  · exact key 1 (Or.inl ⟨⟨by omega, trivial⟩, rfl⟩)
end M7
end
section
/-! THE REFERENCE: what a sheet lacks -/
def zLk (ln rz : Int → Int) (x l f m : Int) : Int := if ln x = l then (if 0 ≤ f ∧ f ≤ rz x - m then 0 else -13) else if 0 ≤ ln x then -12 else -11
section M8
variable {w ks ss : Int → Int} {n : Nat} {la su nm np ns : Int → Int} {sz : Nat} {tp : Int → Int} {tn pl : Nat} {rs : Int} {rd : Int → Int} {lp ik : Int} {kp : Int → Int} {km kn : Int} {ln rz it : Int → Int}
theorem c_Mo_lacksRow {x : Nat} {l f m : Int} (hx : x < 4) (hl : -2147483648 ≤ l ∧ l ≤ 2147483647) (hf : -2147483648 ≤ f ∧ f ≤ 2147483647) (hm : 0 ≤ m ∧ m ≤ 24) (h1 : -1 ≤ ln x ∧ ln x ≤ 2) (h2 : 0 ≤ rz x ∧ rz x ≤ 24) :
    zMet m_Mo_lacksRow [.inr (.inr 0), .inl (x : Int), .inl l, .inl f, .inl m] (wMo w ks ss n la su nm np ns sz tp tn pl rs rd lp ik kp km kn ln rz it) (fun v wd => v = some (.inl (zLk ln rz x l f m)) ∧ wd = wMo w ks ss n la su nm np ns sz tp tn pl rs rd lp ik kp km kn ln rz it) := by
  refine zMet.of (own := RX7) rfl (by decide +kernel) tk_Mo_lacksRow fok_Mo cok_Mo (Nat.le_of_ble_eq_true rfl) (fun G hG => ?_)
  refine hG.1 [] 80 _ _ _ _ ?_
  refine ⟨by omega, by omega, fun q1 => ?_, fun q1 => ?_⟩
  · refine ⟨by omega, by omega, by omega, ?_⟩
    refine hG.2.2.1 (c_Mo_in (a := f) (b := 0) (c := rz x - m) (by omega) (by omega) (by omega)) ys_Mo_in (Or.inl lk_Mo_55) (by decide +kernel) rfl [] (by decide +kernel) rfl rfl rfl (Nat.le_of_ble_eq_true rfl) (fun v w2 hv hl2 => ?_)
    obtain ⟨⟨hd, rfl⟩ | ⟨hd, rfl⟩, rfl⟩ := hv
    · change G _ _ _ (wMo w ks ss n la su nm np ns sz tp tn pl rs rd lp ik kp km kn ln rz it)
      refine hG.1 [] 80 _ _ _ _ ?_
      refine ⟨by omega, fun q => absurd q (by omega), fun q => ?_⟩
      exact ⟨trivial, by rw [zLk, if_pos q1, if_pos hd], rfl⟩
    · change G _ _ _ (wMo w ks ss n la su nm np ns sz tp tn pl rs rd lp ik kp km kn ln rz it)
      refine hG.1 [] 80 _ _ _ _ ?_
      refine ⟨by omega, fun q => ?_, fun q => absurd rfl q⟩
      exact ⟨trivial, by rw [zLk, if_pos q1, if_neg hd], rfl⟩
  · refine ⟨by omega, by omega, fun q2 => ?_, fun q2 => ?_⟩
    · exact ⟨trivial, by rw [zLk, if_neg q1, if_pos q2], rfl⟩
    · exact ⟨trivial, by rw [zLk, if_neg q1, if_neg (by omega)], rfl⟩
theorem c_Mo_asLane {l x : Int} (hl : 0 ≤ l ∧ l ≤ 2) :
    zMet m_Mo_asLane [.inl l, .inr (.inl x)] [] (fun v wd => v = some (.inr (.inl (if l = 0 then (x * 2 ^ 48).bmod 18446744073709551616 / 2 ^ 48 else if l = 1 then (x * 2 ^ 32).bmod 18446744073709551616 / 2 ^ 32 else x))) ∧ wd = []) := by
  have b : ∀ y : Int, -9223372036854775808 ≤ y.bmod 18446744073709551616 ∧ y.bmod 18446744073709551616 ≤ 9223372036854775807 := fun y => by
    have h1 := Int.le_bmod (x := y) (m := 18446744073709551616) (by omega)
    have h2 := Int.bmod_lt (x := y) (m := 18446744073709551616) (by omega)
    omega
  have b1 := b (x * 2 ^ Int.toNat 48)
  have b2 := b (x * 2 ^ Int.toNat 32)
  refine zMet.of (own := RX7) rfl (by decide +kernel) tk_Mo_asLane fok_Mo cok_Mo (Nat.le_of_ble_eq_true rfl) (fun G hG => ?_)
  refine hG.1 [] 80 _ _ _ _ ?_
  refine ⟨by omega, fun q1 => ?_, fun q1 => ?_⟩
  · refine ⟨by omega, fun q2 => ?_, fun q2 => ?_⟩
    · exact ⟨trivial, by rw [if_neg q1, if_neg q2], rfl⟩
    · exact ⟨by omega, by omega, trivial, by rw [if_neg q1, if_pos q2] <;> rfl, rfl⟩
  · exact ⟨by omega, by omega, trivial, by rw [if_pos q1] <;> rfl, rfl⟩
end M8
end
section
/-! THE REFERENCE: a night put away -/
def zCp (ns ss : Int → Int) (b : Int) : Nat → (Int → Int)
  | 0 => ns
  | k + 1 => z_u (zCp ns ss b k) (b + k) (ss k)
section M9
variable {w ks ss : Int → Int} {n : Nat} {la su nm np ns : Int → Int} {sz : Nat} {tp : Int → Int} {tn pl : Nat} {rs : Int} {rd : Int → Int} {lp ik : Int} {kp : Int → Int} {km kn : Int} {ln rz it : Int → Int}
theorem c_Mo_night {x : Int} (hx : -2147483648 ≤ x ∧ x ≤ 2147483647) (hn : n ≤ 9) (hS : zOkS ss n) (hlw : 0 ≤ la 0 ∧ la 0 ≤ 3) (hla : 0 ≤ la 1 ∧ la 1 ≤ 2) (hz : sz ≤ 12) :
    zMet m_Mo_night [.inr (.inr 0), .inl x] (wMo w ks ss n la su nm np ns sz tp tn pl rs rd lp ik kp km kn ln rz it) (fun v wd => ((0 ≤ x ∧ x < 21) ∧ sz ≠ 12 ∧ n ≠ 0 ∧ v = some (.inl (sz : Int)) ∧ wd = wMo w ks ss n la (z_u su sz x) (z_u nm sz n) (z_u np sz (zPyM ss n (la 0) (la 1) x)) (zCp ns ss (9 * sz) n) (sz + 1) tp tn pl rs rd lp ik kp km kn ln rz it) ∨ ((0 ≤ x ∧ x < 21) ∧ sz = 12 ∧ v = some (.inl (-3)) ∧ wd = wMo w ks ss n la su nm np ns sz tp tn pl rs rd lp ik kp km kn ln rz it) ∨ ((0 ≤ x ∧ x < 21) ∧ sz ≠ 12 ∧ n = 0 ∧ v = some (.inl (-2)) ∧ wd = wMo w ks ss n la su nm np ns sz tp tn pl rs rd lp ik kp km kn ln rz it) ∨ (¬ (0 ≤ x ∧ x < 21) ∧ v = some (.inl (-1)) ∧ wd = wMo w ks ss n la su nm np ns sz tp tn pl rs rd lp ik kp km kn ln rz it)) := by
  refine zMet.of (own := RX7) rfl (by decide +kernel) tk_Mo_night fok_Mo cok_Mo (Nat.le_of_ble_eq_true rfl) (fun G hG => ?_)
  refine hG.1 [] 80 _ _ _ _ ?_
  refine ⟨by omega, ?_⟩
  refine hG.2.2.1 (c_Mo_isSum (x := x) (by omega)) ys_Mo_isSum (Or.inl lk_Mo_63) (by decide +kernel) rfl [] (by decide +kernel) rfl rfl rfl (Nat.le_of_ble_eq_true rfl) (fun v w2 hv hl2 => ?_)
  obtain ⟨⟨hc, rfl⟩ | ⟨hc, rfl⟩, rfl⟩ := hv
  · change G _ _ _ (wMo w ks ss n la su nm np ns sz tp tn pl rs rd lp ik kp km kn ln rz it)
    refine hG.1 [] 80 _ _ _ _ ?_
    refine ⟨by omega, fun q => ?_, fun q => absurd q (by omega)⟩
    refine ⟨by omega, fun h1 => ?_, fun h1 => ?_⟩
    · refine ⟨by omega, fun h2 => ?_, fun h2 => ?_⟩
      · refine ⟨by omega, by omega, ?_⟩
        refine hG.2.1 (c_Mo_payers (sum := x) (show 1 ≤ n by omega) hn hS (by omega) hlw hla) yv_Mo_payers lk_Mo_150 (by decide +kernel) rfl rfl [0, 1, 2, 3, 4, 5, 6, 7, 8, 9, 10, 11, 12, 13, 14] (by decide +kernel) rfl rfl rfl (Nat.le_of_ble_eq_true rfl) (fun v w2 hv hl2 => ?_)
        obtain ⟨rfl, rfl⟩ := hv
        change G _ _ _ (wMo w ks ss n la (z_u su sz x) (z_u nm sz n) np ns sz tp tn pl rs rd lp ik kp km kn ln rz it)
        refine hG.1 [71] 80 _ _ _ _ ?_
        refine ⟨by omega, ?_⟩
        refine z_up0 (n := n) (P := fun i : Nat => G 71 [(0, .inr (.inr 0)), (1, .inl x), (2, .inl (i : Int))] [] (wMo w ks ss n la (z_u su sz x) (z_u nm sz n) (z_u np sz (zPyM ss n (la 0) (la 1) x)) (zCp ns ss (9 * sz) i) sz tp tn pl rs rd lp ik kp km kn ln rz it)) ?_ (fun i hi ih => ?_)
        · refine hG.1 [] 80 _ _ _ _ ?_
          refine ⟨by omega, fun q1 => ?_, fun q1 => absurd q1 (by omega)⟩
          exact ⟨trivial, Or.inl ⟨hc, by omega, by omega, by congr 2; omega, rfl⟩⟩
        · refine hG.1 [71] 80 _ _ _ _ ?_
          refine ⟨by omega, fun q1 => absurd q1 (by omega), fun q1 => ?_⟩
          exact ⟨by omega, by omega, ih⟩
      · exact ⟨trivial, Or.inr (Or.inr (Or.inl ⟨hc, by omega, by omega, rfl, rfl⟩))⟩
    · exact ⟨trivial, Or.inr (Or.inl ⟨hc, by omega, rfl, rfl⟩)⟩
  · change G _ _ _ (wMo w ks ss n la su nm np ns sz tp tn pl rs rd lp ik kp km kn ln rz it)
    refine hG.1 [] 80 _ _ _ _ ?_
    refine ⟨by omega, fun q => absurd rfl q, fun q => ?_⟩
    exact ⟨trivial, Or.inr (Or.inr (Or.inr ⟨hc, rfl, rfl⟩))⟩
end M9
end
section
/-! THE REFERENCE: a sheet laid -/
def zZr (it : Int → Int) (b : Int) : Nat → (Int → Int)
  | 0 => it
  | k + 1 => z_u (zZr it b k) (b + k) 0
section M10
variable {w ks ss : Int → Int} {n : Nat} {la su nm np ns : Int → Int} {sz : Nat} {tp : Int → Int} {tn pl : Nat} {rs : Int} {rd : Int → Int} {lp ik : Int} {kp : Int → Int} {km kn : Int} {ln rz it : Int → Int}
theorem c_Mo_sheet {x l s : Int} (hx : -2147483648 ≤ x ∧ x ≤ 2147483647) (hl : -2147483648 ≤ l ∧ l ≤ 2147483647) (hs : -2147483648 ≤ s ∧ s ≤ 2147483647) :
    zMet m_Mo_sheet [.inr (.inr 0), .inl x, .inl l, .inl s] (wMo w ks ss n la su nm np ns sz tp tn pl rs rd lp ik kp km kn ln rz it) (fun v wd => ((((0 ≤ x ∧ x < 4) ∧ (0 ≤ l ∧ l ≤ 2)) ∧ s ≤ 24) ∧ 0 ≤ s ∧ v = some (.inl s) ∧ wd = wMo w ks ss n la su nm np ns sz tp tn pl rs rd lp ik kp km kn (z_u ln x l) (z_u rz x s) (zZr it (24 * x) 24)) ∨ ((((0 ≤ x ∧ x < 4) ∧ (0 ≤ l ∧ l ≤ 2)) ∧ s ≤ 24) ∧ s < 0 ∧ v = some (.inl (-14)) ∧ wd = wMo w ks ss n la su nm np ns sz tp tn pl rs rd lp ik kp km kn ln rz it) ∨ (¬ (((0 ≤ x ∧ x < 4) ∧ (0 ≤ l ∧ l ≤ 2)) ∧ s ≤ 24) ∧ v = some (.inl (-1)) ∧ wd = wMo w ks ss n la su nm np ns sz tp tn pl rs rd lp ik kp km kn ln rz it)) := by
  refine zMet.of (own := RX7) rfl (by decide +kernel) tk_Mo_sheet fok_Mo cok_Mo (Nat.le_of_ble_eq_true rfl) (fun G hG => ?_)
  refine hG.1 [] 80 _ _ _ _ ?_
  refine hG.2.2.1 (c_Mo_isSheet (x := x) (l := l) hx hl) ys_Mo_isSheet (Or.inl lk_Mo_222) (by decide +kernel) rfl [] (by decide +kernel) rfl rfl rfl (Nat.le_of_ble_eq_true rfl) (fun v w2 hv hl2 => ?_)
  obtain ⟨⟨hc, rfl⟩ | ⟨hc, rfl⟩, rfl⟩ := hv
  · change G _ _ _ (wMo w ks ss n la su nm np ns sz tp tn pl rs rd lp ik kp km kn ln rz it)
    refine hG.1 [40] 80 _ _ _ _ ?_
    refine ⟨by omega, fun q => absurd q (by omega), fun q => ?_⟩
    refine ⟨by omega, fun h1 => ?_, fun h1 => ?_⟩
    · refine ⟨by omega, fun h2 => ?_, fun h2 => ?_⟩
      · refine ⟨by omega, by omega, ?_⟩
        refine z_up0 (n := 24) (P := fun i : Nat => G 40 [(0, .inr (.inr 0)), (1, .inl x), (2, .inl l), (3, .inl s), (4, .inl (i : Int))] [] (wMo w ks ss n la su nm np ns sz tp tn pl rs rd lp ik kp km kn (z_u ln x l) (z_u rz x s) (zZr it (24 * x) i))) ?_ (fun i hi ih => ?_)
        · refine hG.1 [] 80 _ _ _ _ ?_
          refine ⟨by omega, fun q1 => ?_, fun q1 => absurd q1 (by omega)⟩
          exact ⟨trivial, Or.inl ⟨⟨hc, h1⟩, h2, rfl, rfl⟩⟩
        · refine hG.1 [40] 80 _ _ _ _ ?_
          refine ⟨by omega, fun q1 => absurd q1 (by omega), fun q1 => ?_⟩
          exact ⟨by omega, ih⟩
      · exact ⟨trivial, Or.inr (Or.inl ⟨⟨hc, h1⟩, h2, rfl, rfl⟩)⟩
    · exact ⟨trivial, Or.inr (Or.inr ⟨fun z => by have := z.2; omega, rfl, rfl⟩)⟩
  · change G _ _ _ (wMo w ks ss n la su nm np ns sz tp tn pl rs rd lp ik kp km kn ln rz it)
    refine hG.1 [] 80 _ _ _ _ ?_
    refine ⟨by omega, fun q => ?_, fun q => absurd rfl q⟩
    exact ⟨trivial, Or.inr (Or.inr ⟨fun z => hc z.1, rfl, rfl⟩)⟩
end M10
end
section
/-! THE BRIDGE: who pays, by the class's shares and by the reference's sets -/
def zCt (p : Nat → Bool) : Nat → Nat
  | 0 => 0
  | k + 1 => zCt p k + (if p k = true then 1 else 0)
theorem zCt_le (p : Nat → Bool) : ∀ n, zCt p n ≤ n
  | 0 => Nat.le_refl _
  | n + 1 => by have := zCt_le p n; unfold zCt; split <;> omega
theorem zCt_cong {p q : Nat → Bool} : ∀ {n : Nat}, (∀ k, k < n → p k = q k) → zCt p n = zCt q n
  | 0, _ => rfl
  | n + 1, h => by
    have h1 := zCt_cong (n := n) (fun k hk => h k (by omega))
    unfold zCt
    rw [h1, h n (by omega)]
theorem zCt_0 {p : Nat → Bool} : ∀ {n : Nat}, (∀ k, k < n → p k = false) → zCt p n = 0
  | 0, _ => rfl
  | n + 1, h => by
    have h1 := zCt_0 (n := n) (fun k hk => h k (by omega))
    unfold zCt
    rw [h1, h n (by omega)]
    rfl
theorem zCt_rem {p : Nat → Bool} {g : Nat} (hp : p g = true) : ∀ {n : Nat}, g < n → zCt p n = zCt (fun o => decide (o ≠ g) && p o) n + 1
  | 0, h => absurd h (Nat.not_lt_zero _)
  | n + 1, h => by
    by_cases hg : g = n
    · subst hg
      have h1 : zCt p g = zCt (fun o => decide (o ≠ g) && p o) g := zCt_cong (fun k hk => by
        show p k = (decide (k ≠ g) && p k)
        rw [decide_eq_true (show k ≠ g by omega), Bool.true_and])
      unfold zCt
      rw [← h1, if_pos hp, if_neg (by simp)]
    · have h1 := zCt_rem hp (n := n) (by omega)
      unfold zCt
      rw [h1]
      have h2 : (decide (n ≠ g) && p n) = p n := by rw [decide_eq_true (show n ≠ g by omega), Bool.true_and]
      rw [h2]
      omega
theorem zCt_lt {p q : Nat → Bool} (hs : ∀ k, p k = true → q k = true) {g : Nat} (hq : q g = true) (hp : p g = false) : ∀ {n : Nat}, g < n → zCt p n < zCt q n := by
  have hle : ∀ n, zCt p n ≤ zCt q n := by
    intro n
    induction n with
    | zero => exact Nat.le_refl _
    | succ n ih =>
      unfold zCt
      by_cases h : p n = true
      · rw [if_pos h, if_pos (hs n h)]; omega
      · rw [if_neg h]; split <;> omega
  intro n hn
  induction n with
  | zero => omega
  | succ n ih =>
    unfold zCt
    by_cases hg : g = n
    · subst hg
      have := hle g
      rw [if_neg (by rw [hp]; simp), if_pos hq]; omega
    · have := ih (by omega)
      by_cases h : p n = true
      · rw [if_pos h, if_pos (hs n h)]; omega
      · rw [if_neg h]; split <;> omega
theorem zCt_all : ∀ n, zCt (fun _ => true) n = n
  | 0 => rfl
  | n + 1 => by
    have := zCt_all n
    show zCt (fun _ => true) n + 1 = n + 1
    rw [this]
theorem zFirstEx {p : Nat → Bool} : ∀ {n : Nat}, (∃ g, g < n ∧ p g = true) → ∃ j, j < n ∧ p j = true ∧ ∀ i, i < j → p i = false
  | 0, ⟨g, h, _⟩ => absurd h (Nat.not_lt_zero _)
  | n + 1, ⟨g, h, hp⟩ => by
    rcases Classical.em (∃ g, g < n ∧ p g = true) with q | q
    · obtain ⟨j, h1, h2, h3⟩ := zFirstEx q
      exact ⟨j, by omega, h2, h3⟩
    · refine ⟨g, h, hp, fun i hi => ?_⟩
      cases hpi : p i with
      | false => rfl
      | true => exact absurd ⟨i, by omega, hpi⟩ q
theorem zLastEx {p : Nat → Bool} : ∀ {n : Nat}, (∃ g, g < n ∧ p g = true) → ∃ j, j < n ∧ p j = true ∧ ∀ i, j < i → i < n → p i = false
  | 0, ⟨g, h, _⟩ => absurd h (Nat.not_lt_zero _)
  | n + 1, ⟨g, h, hp⟩ => by
    cases hn : p n with
    | true => exact ⟨n, by omega, hn, fun i h1 h2 => by omega⟩
    | false =>
      have hg : g ≠ n := fun z => by rw [z, hn] at hp; cases hp
      obtain ⟨j, h1, h2, h3⟩ := zLastEx (n := n) ⟨g, by omega, hp⟩
      refine ⟨j, by omega, h2, fun i h4 h5 => ?_⟩
      by_cases hi : i = n
      · rw [hi]; exact hn
      · exact h3 i h4 (by omega)
-- masks
theorem zMask_cong {p q : Nat → Bool} : ∀ {n : Nat}, (∀ k, k < n → p k = q k) → zMaskN p n = zMaskN q n
  | 0, _ => rfl
  | n + 1, h => by
    have h1 := zMask_cong (n := n) (fun k hk => h k (by omega))
    unfold zMaskN
    rw [h1, h n (by omega)]
theorem zMask_0 {p : Nat → Bool} : ∀ {n : Nat}, (∀ k, k < n → p k = false) → zMaskN p n = 0
  | 0, _ => rfl
  | n + 1, h => by
    have h1 := zMask_0 (n := n) (fun k hk => h k (by omega))
    unfold zMaskN
    rw [h1, h n (by omega)]
    rfl
theorem zMask_tb (p : Nat → Bool) : ∀ n k, (zMaskN p n).testBit k = (decide (k < n) && p k)
  | 0, k => by
    show (0 : Nat).testBit k = _
    rw [Nat.zero_testBit, decide_eq_false (Nat.not_lt_zero k), Bool.false_and]
  | n + 1, k => by
    have h1 := zMask_tb p n k
    have h2 := zMaskN_lt p n
    by_cases hp : p n = true
    · have e : zMaskN p (n + 1) = 2 ^ n + zMaskN p n := by
        show zMaskN p n + (if p n = true then 2 ^ n else 0) = _
        rw [if_pos hp, Nat.add_comm]
      rw [e]
      rcases Nat.lt_trichotomy k n with h | h | h
      · rw [Nat.testBit_two_pow_add_gt h, h1, decide_eq_true h, decide_eq_true (show k < n + 1 by omega)]
      · subst h
        rw [Nat.testBit_two_pow_add_eq, Nat.testBit_lt_two_pow h2, hp, decide_eq_true (show k < k + 1 by omega)]
        rfl
      · rw [decide_eq_false (show ¬ k < n + 1 by omega), Bool.false_and]
        refine Nat.testBit_lt_two_pow (Nat.lt_of_lt_of_le ?_ (Nat.pow_le_pow_right (show 0 < 2 by omega) (show n + 1 ≤ k by omega)))
        rw [Nat.pow_succ]; omega
    · have e : zMaskN p (n + 1) = zMaskN p n := by
        show zMaskN p n + (if p n = true then 2 ^ n else 0) = _
        rw [if_neg hp, Nat.add_zero]
      rw [e, h1]
      rcases Nat.lt_trichotomy k n with h | h | h
      · rw [decide_eq_true h, decide_eq_true (show k < n + 1 by omega)]
      · subst h
        have hp2 : p k = false := by simpa using hp
        rw [hp2, Bool.and_false, Bool.and_false]
      · rw [decide_eq_false (show ¬ k < n by omega), decide_eq_false (show ¬ k < n + 1 by omega)]
theorem zMask_one {p : Nat → Bool} {n j : Nat} (hj : j < n) (h : ∀ k, k < n → (p k = true ↔ k = j)) : zMaskN p n = 2 ^ j := by
  refine Nat.eq_of_testBit_eq (fun k => ?_)
  rw [zMask_tb, Nat.testBit_two_pow]
  by_cases hk : k < n
  · rw [decide_eq_true hk, Bool.true_and]
    by_cases e : k = j
    · rw [(h k hk).mpr e, decide_eq_true e.symm]
    · rw [decide_eq_false (fun z => e z.symm)]
      cases hp : p k with
      | false => rfl
      | true => exact absurd ((h k hk).mp hp) e
  · rw [decide_eq_false hk, decide_eq_false (show ¬ j = k by omega), Bool.false_and]
theorem zBit_tb : ∀ m, m < 512 → ∀ k, k < 9 → (zBit ((m : Nat) : Int) k ↔ m.testBit k = true) := by decide +kernel
theorem zBit_mask {p : Nat → Bool} {n k : Nat} (hn : n ≤ 9) (hk : k < 9) : zBit ((zMaskN p n : Nat) : Int) k ↔ (k < n ∧ p k = true) := by
  rw [zBit_tb _ (zMask9 hn) k hk, zMask_tb, Bool.and_eq_true, decide_eq_true_iff]
theorem zPop_add : ∀ n, n < 9 → ∀ a, a < 2 ^ n → zPop 9 (a + 2 ^ n) = zPop 9 a + 1 := by decide +kernel
theorem zPop_mask {p : Nat → Bool} : ∀ {n : Nat}, n ≤ 9 → zPop 9 (zMaskN p n) = zCt p n
  | 0, _ => by
    show zPop 9 0 = 0
    decide
  | n + 1, h => by
    have h1 := zPop_mask (p := p) (n := n) (by omega)
    unfold zMaskN zCt
    split
    · rw [zPop_add n (by omega) _ (zMaskN_lt p n), h1]
    · rw [Nat.add_zero, h1, Nat.add_zero]
theorem zLow9 : ∀ m, m < 512 → ∀ j, j < 9 → m.testBit j = true → (∀ i, i < j → m.testBit i = false) → z_and ((m : Nat) : Int) (-((m : Nat) : Int)) = ((2 ^ j : Nat) : Int) := by decide +kernel
theorem zLst_at {p : Nat → Bool} {s0 : Int} {j : Nat} (hp : p j = true) : ∀ {k : Nat}, j < k → (∀ i, j < i → i < k → p i = false) → zLst p s0 k = ((2 ^ j : Nat) : Int)
  | 0, h, _ => absurd h (Nat.not_lt_zero _)
  | k + 1, h, h2 => by
    unfold zLst
    by_cases e : j = k
    · subst e; rw [if_pos hp]
    · rw [h2 k (by omega) (by omega), if_neg (by simp)]
      exact zLst_at hp (by omega) (fun i h3 h4 => h2 i h3 (by omega))
-- the greatest distance
theorem zFar_max {near : Int} {ss : Int → Int} {sum : Int} {p : Nat → Bool} {n : Nat} (hd : ∀ g, g < n → 0 ≤ zDst near ss sum g) : ∀ k, k ≤ n →
    (∀ g, g < k → p g = true → zDst near ss sum g ≤ (zFar near ss sum p k).1) ∧
    ((∃ g, g < k ∧ p g = true) → ∃ g, g < k ∧ p g = true ∧ zDst near ss sum g = (zFar near ss sum p k).1) ∧
    (¬ (∃ g, g < k ∧ p g = true) → (zFar near ss sum p k).1 = -1) ∧
    (zFar near ss sum p k).2 = zMaskN (fun g => p g && decide (zDst near ss sum g = (zFar near ss sum p k).1)) k
  | 0, _ => ⟨fun g h => absurd h (Nat.not_lt_zero _), fun ⟨g, h, _⟩ => absurd h (Nat.not_lt_zero _), fun _ => rfl, rfl⟩
  | k + 1, hk => by
    obtain ⟨a1, a2, a3, a4⟩ := zFar_max (p := p) hd k (by omega)
    have hdk := hd k (by omega)
    have e : zFar near ss sum p (k + 1) = if p k = true then (if (zFar near ss sum p k).1 < zDst near ss sum k then (zDst near ss sum k, 2 ^ k) else if zDst near ss sum k = (zFar near ss sum p k).1 then ((zFar near ss sum p k).1, (zFar near ss sum p k).2 + 2 ^ k) else zFar near ss sum p k) else zFar near ss sum p k := rfl
    generalize zFar near ss sum p k = F at a1 a2 a3 a4 e
    by_cases hp : p k = true
    · rw [if_pos hp] at e
      by_cases h1 : F.1 < zDst near ss sum k
      · rw [if_pos h1] at e
        rw [e]
        refine ⟨fun g hg hpg => ?_, fun _ => ⟨k, by omega, hp, rfl⟩, fun h => absurd ⟨k, by omega, hp⟩ h, ?_⟩
        · by_cases hgk : g = k
          · rw [hgk]; exact Int.le_refl _
          · have := a1 g (by omega) hpg
            show _ ≤ zDst near ss sum k
            omega
        · have hc : (p k && decide (zDst near ss sum k = zDst near ss sum k)) = true := by simp [hp]
          have h0 : zMaskN (fun g => p g && decide (zDst near ss sum g = zDst near ss sum k)) k = 0 := zMask_0 (fun g hg => by
            cases hpg : p g with
            | false => exact Bool.false_and _
            | true =>
              have := a1 g (by omega) hpg
              rw [decide_eq_false (show ¬ zDst near ss sum g = zDst near ss sum k by omega), Bool.and_false])
          show 2 ^ k = zMaskN (fun g => p g && decide (zDst near ss sum g = zDst near ss sum k)) k + (if (p k && decide (zDst near ss sum k = zDst near ss sum k)) = true then 2 ^ k else 0)
          rw [if_pos hc, h0, Nat.zero_add]
      · rw [if_neg h1] at e
        by_cases h2 : zDst near ss sum k = F.1
        · rw [if_pos h2] at e
          rw [e]
          refine ⟨fun g hg hpg => ?_, fun _ => ⟨k, by omega, hp, h2⟩, fun h => absurd ⟨k, by omega, hp⟩ h, ?_⟩
          · by_cases hgk : g = k
            · rw [hgk]; exact Int.le_of_eq h2
            · exact a1 g (by omega) hpg
          · show F.2 + 2 ^ k = zMaskN (fun g => p g && decide (zDst near ss sum g = F.1)) k + (if (p k && decide (zDst near ss sum k = F.1)) = true then 2 ^ k else 0)
            have hc : (p k && decide (zDst near ss sum k = F.1)) = true := by simp [hp, h2]
            rw [if_pos hc, ← a4]
        · rw [if_neg h2] at e
          rw [e]
          have hex : ∃ g, g < k ∧ p g = true := Classical.byContradiction fun z => by
            have := a3 z; omega
          obtain ⟨g0, b1, b2, b3⟩ := a2 hex
          refine ⟨fun g hg hpg => ?_, fun _ => ⟨g0, by omega, b2, b3⟩, fun h => absurd ⟨k, by omega, hp⟩ h, ?_⟩
          · by_cases hgk : g = k
            · rw [hgk]; omega
            · exact a1 g (by omega) hpg
          · show F.2 = zMaskN (fun g => p g && decide (zDst near ss sum g = F.1)) k + (if (p k && decide (zDst near ss sum k = F.1)) = true then 2 ^ k else 0)
            have hc : ¬ (p k && decide (zDst near ss sum k = F.1)) = true := by simp [hp, h2]
            rw [if_neg hc, ← a4, Nat.add_zero]
    · rw [if_neg hp] at e
      rw [e]
      have hp2 : p k = false := by simpa using hp
      have hdown : ∀ g, g < k + 1 → p g = true → g < k := fun g hg hpg => by
        by_cases hgk : g = k
        · rw [hgk] at hpg; exact absurd hpg hp
        · omega
      refine ⟨fun g hg hpg => a1 g (hdown g hg hpg) hpg, fun ⟨g, hg, hpg⟩ => ?_, fun h => a3 (fun ⟨g, hg, hpg⟩ => h ⟨g, by omega, hpg⟩), ?_⟩
      · obtain ⟨g0, b1, b2, b3⟩ := a2 ⟨g, hdown g hg hpg, hpg⟩
        exact ⟨g0, by omega, b2, b3⟩
      · show F.2 = zMaskN (fun g => p g && decide (zDst near ss sum g = F.1)) k + (if (p k && decide (zDst near ss sum k = F.1)) = true then 2 ^ k else 0)
        have hc : ¬ (p k && decide (zDst near ss sum k = F.1)) = true := by simp [hp2]
        rw [if_neg hc, ← a4, Nat.add_zero]
end
section
/-! THE BRIDGE: the one in the middle; payers -/
theorem fb_holes : ∀ (m n : Nat) (f : Nat → Nat), (∀ i, i < n → f i < m) → (∀ i j, i < j → j < n → f i ≠ f j) → n ≤ m := by
  intro m
  induction m with
  | zero =>
    intro n f h1 _
    rcases Nat.eq_zero_or_pos n with h | h
    · omega
    · exact absurd (h1 0 h) (Nat.not_lt_zero _)
  | succ m ih =>
    intro n f h1 h2
    by_cases hx : ∃ i, i < n ∧ f i = m
    · obtain ⟨a, ha, hfa⟩ := hx
      have hg := ih (n - 1) (fun i => if i < a then f i else f (i + 1)) (by
        intro i hi
        by_cases q : i < a
        · simp only [if_pos q]
          have b1 := h1 i (by omega)
          have b2 := h2 i a q ha
          omega
        · simp only [if_neg q]
          have b1 := h1 (i + 1) (by omega)
          have b2 := h2 a (i + 1) (by omega) (by omega)
          omega) (by
        intro i j hij hj
        by_cases q : i < a
        · by_cases r : j < a
          · simp only [if_pos q, if_pos r]
            exact h2 i j hij (by omega)
          · simp only [if_pos q, if_neg r]
            exact h2 i (j + 1) (by omega) (by omega)
        · have r : ¬ j < a := by omega
          simp only [if_neg q, if_neg r]
          exact h2 (i + 1) (j + 1) (by omega) (by omega))
      omega
    · have hg := ih n f (fun i hi => by
        have b1 := h1 i hi
        have b2 : f i ≠ m := fun e => hx ⟨i, hi, e⟩
        omega) h2
      omega
/-- two of them in one place -/
theorem fb_twice {m n : Nat} {f : Nat → Nat} (h : ∀ i, i < n → f i < m) (hm : m < n) : ∃ i j, i < j ∧ j < n ∧ f i = f j := by
  refine Classical.byContradiction fun hx => ?_
  have := fb_holes m n f h (fun i j hij hj e => hx ⟨i, j, hij, hj, e⟩)
  omega
/-- as many as places, none twice: each place is taken -/
theorem fb_onto {n : Nat} {f : Nat → Nat} (h : ∀ i, i < n → f i < n) (h2 : ∀ i j, i < j → j < n → f i ≠ f j) {y : Nat} (hy : y < n) : ∃ i, i < n ∧ f i = y := by
  refine Classical.byContradiction fun hx => ?_
  have hne : ∀ i, i < n → f i ≠ y := fun i hi e => hx ⟨i, hi, e⟩
  have := fb_holes (n - 1) n (fun i => if f i < y then f i else f i - 1) (by
    intro i hi
    have b1 := h i hi
    have b2 := hne i hi
    by_cases q : f i < y
    · simp only [if_pos q]; omega
    · simp only [if_neg q]; omega) (by
    intro i j hij hj
    have b1 := hne i (by omega)
    have b2 := hne j hj
    have b3 := h2 i j hij hj
    by_cases q : f i < y
    · by_cases r : f j < y
      · simp only [if_pos q, if_pos r]; exact b3
      · simp only [if_pos q, if_neg r]; omega
    · by_cases r : f j < y
      · simp only [if_neg q, if_pos r]; omega
      · simp only [if_neg q, if_neg r]; omega)
  omega
/-! ===== how many places have a property ===== -/
theorem zPlace_ct (ss : Int → Int) (g : Nat) : ∀ k, zPlaceN ss g k = zCt (fun o => decide (ss o < ss g ∨ (ss o = ss g ∧ o < g))) k
  | 0 => rfl
  | k + 1 => by
    have h := zPlace_ct ss g k
    unfold zPlaceN zCt
    rw [h]
    by_cases q : ss k < ss g ∨ (ss k = ss g ∧ k < g)
    · rw [if_pos q, if_pos (decide_eq_true q)]
    · rw [if_neg q, if_neg (by rw [decide_eq_false q]; simp)]
theorem zPlace_inj {ss : Int → Int} {n g h : Nat} (hg : g < n) (hlt : ss g < ss h ∨ (ss g = ss h ∧ g < h)) : zPlaceN ss g n < zPlaceN ss h n := by
  rw [zPlace_ct, zPlace_ct]
  refine zCt_lt (g := g) (fun k hk => ?_) (decide_eq_true hlt) (decide_eq_false (by omega)) hg
  have := of_decide_eq_true hk
  exact decide_eq_true (by omega)
theorem zPlace_lt {ss : Int → Int} {n g : Nat} (hg : g < n) : zPlaceN ss g n < n := by
  have h := zCt_lt (p := fun o => decide (ss o < ss g ∨ (ss o = ss g ∧ o < g))) (q := fun _ => true) (fun _ _ => rfl) (g := g) rfl (decide_eq_false (by omega)) hg
  rw [zCt_all, ← zPlace_ct] at h
  exact h
theorem zPlace_one {ss : Int → Int} {n g h : Nat} (hg : g < n) (hh : h < n) (e : zPlaceN ss g n = zPlaceN ss h n) : g = h := by
  rcases Nat.lt_trichotomy g h with q | q | q
  · rcases Classical.em (ss h < ss g) with r | r
    · have := zPlace_inj (ss := ss) hh (Or.inl r); omega
    · have := zPlace_inj (ss := ss) (g := g) (h := h) hg (by omega); omega
  · exact q
  · rcases Classical.em (ss g < ss h) with r | r
    · have := zPlace_inj (ss := ss) hg (Or.inl r); omega
    · have := zPlace_inj (ss := ss) (g := h) (h := g) hh (by omega); omega
theorem zFindN_at {ss : Int → Int} {n mid j : Nat} (hm : zPlaceN ss j n = mid) (hj : j < n) : ∀ d i, i + d = n → i ≤ j → zFindN ss n mid i d = (j : Int)
  | 0, i, h1, h2 => by omega
  | d + 1, i, h1, h2 => by
    unfold zFindN
    by_cases q : zPlaceN ss i n = mid
    · rw [if_pos q, zPlace_one (show i < n by omega) hj (q.trans hm.symm)]
    · rw [if_neg q]
      have : i ≠ j := fun z => q (z ▸ hm)
      exact zFindN_at hm hj d (i + 1) (by omega) (by omega)
theorem zMid_at {ss : Int → Int} {n j : Nat} (hm : zPlaceN ss j n = (n - 1) / 2) (hj : j < n) : ∀ k, j < k → k ≤ n → zMid ss n k = (j : Int)
  | 0, h, _ => absurd h (Nat.not_lt_zero _)
  | k + 1, h, h2 => by
    unfold zMid
    by_cases q : j = k
    · subst q; rw [if_pos (by omega)]
    · rw [if_neg (fun z => q (zPlace_one (ss := ss) hj (show k < n by omega) (by omega)))]
      exact zMid_at hm hj k (by omega) (by omega)
theorem zMid_free {ss : Int → Int} {n : Nat} (hn : 2 ≤ n) : ∃ j, j < n ∧ zMid ss n n = (j : Int) ∧ zFree ss n 3 = (j : Int) := by
  obtain ⟨j, h1, h2⟩ := fb_onto (n := n) (f := fun g => zPlaceN ss g n) (fun i hi => zPlace_lt hi) (fun i j hij hj e => by
    have := zPlace_one (ss := ss) (show i < n by omega) hj e; omega) (y := (n - 1) / 2) (by omega)
  refine ⟨j, h1, zMid_at h2 h1 n h1 (Nat.le_refl n), ?_⟩
  rw [zFree, if_pos ⟨rfl, hn⟩]
  exact zFindN_at h2 h1 n 0 (by omega) (Nat.zero_le _)
def zP0 (n : Nat) (free : Int) : Nat → Bool := fun k => decide (k < n ∧ (k : Int) ≠ free)
def zM0 (ss : Int → Int) (n : Nat) (who sum free : Int) : Nat → Bool := fun g => zP0 n free g && decide (zDst (if who = 1 then 1 else 0) ss sum g = (zFar (if who = 1 then 1 else 0) ss sum (zP0 n free) n).1)
section Py
variable {ss : Int → Int} {n : Nat} {who ties sum free : Int}
theorem zDst_cmp (g o : Nat) : (zDst (if who = 1 then 1 else 0) ss sum g < zDst (if who = 1 then 1 else 0) ss sum o ↔ ((who = 1 ∧ zOff ss sum o < zOff ss sum g) ∨ (who ≠ 1 ∧ zOff ss sum g < zOff ss sum o))) ∧ (zDst (if who = 1 then 1 else 0) ss sum o = zDst (if who = 1 then 1 else 0) ss sum g ↔ zOff ss sum o = zOff ss sum g) := by
  have e1 : ∀ x, zDst 1 ss sum x = 99 - zOff ss sum x := fun x => by unfold zDst; rw [if_neg (by omega)]
  have e0 : ∀ x, zDst 0 ss sum x = zOff ss sum x := fun x => by unfold zDst; rw [if_pos rfl]
  by_cases h : who = 1
  · rw [if_pos h, e1, e1]; omega
  · rw [if_neg h, e0, e0]; omega
theorem zP0_iff (o : Nat) : zP0 n free o = true ↔ (o < n ∧ (o : Int) ≠ free) := decide_eq_true_iff
theorem zM0_iff (o : Nat) : zM0 ss n who sum free o = true ↔ ((o < n ∧ (o : Int) ≠ free) ∧ zDst (if who = 1 then 1 else 0) ss sum o = (zFar (if who = 1 then 1 else 0) ss sum (zP0 n free) n).1) := by
  unfold zM0
  rw [Bool.and_eq_true, decide_eq_true_iff, zP0_iff]
theorem zDst_0 (hS : zOkS ss n) (hs : 0 ≤ sum ∧ sum ≤ 20) : ∀ g, g < n → 0 ≤ zDst (if who = 1 then 1 else 0) ss sum g := fun g hg => (zDst_in (hS g hg) hs).1
theorem zMost_iff (hS : zOkS ss n) (hs : 0 ≤ sum ∧ sum ≤ 20) {g : Nat} (hg : g < n) (hf : (g : Int) ≠ free) :
    ¬ zBadN ss who ties sum g free n ↔ (zM0 ss n who sum free g = true ∧ (ties = 0 → ∀ o, o < g → zM0 ss n who sum free o = false) ∧ (ties = 2 → ∀ o, g < o → o < n → zM0 ss n who sum free o = false)) := by
  obtain ⟨a1, a2, _, _⟩ := zFar_max (p := zP0 n free) (zDst_0 (who := who) hS hs) n (Nat.le_refl n)
  have hM := zM0_iff (ss := ss) (n := n) (who := who) (sum := sum) (free := free)
  have hp := zP0_iff (n := n) (free := free)
  have hc := fun o => zDst_cmp (ss := ss) (who := who) (sum := sum) g o
  obtain ⟨g0, b1, b2, b3⟩ := a2 ⟨g, hg, (hp g).mpr ⟨hg, hf⟩⟩
  generalize (zFar (if who = 1 then 1 else 0) ss sum (zP0 n free) n).1 = D at a1 b3 hM
  rw [zBadN_iff]
  constructor
  · intro hb
    have hb' : ∀ o, o < n → ¬ zBad ss who ties sum g free o := fun o ho z => hb ⟨o, ho, z⟩
    have hD : zDst (if who = 1 then 1 else 0) ss sum g = D := by
      have h1 := a1 g hg ((hp g).mpr ⟨hg, hf⟩)
      by_cases e : g0 = g
      · rw [← e]; exact b3
      · have h4 := (hp g0).mp b2
        have h5 : ¬ (zDst (if who = 1 then 1 else 0) ss sum g < zDst (if who = 1 then 1 else 0) ss sum g0) := fun z => hb' g0 b1 ⟨e, h4.2, ((hc g0).1.mp z).elim Or.inl (fun q => Or.inr (Or.inl q))⟩
        omega
    refine ⟨(hM g).mpr ⟨⟨hg, hf⟩, hD⟩, fun ht o ho => ?_, fun ht o h1 h2 => ?_⟩
    · cases hMo : zM0 ss n who sum free o with
      | false => rfl
      | true =>
        have h6 := (hM o).mp hMo
        exact absurd ⟨by omega, h6.1.2, Or.inr (Or.inr ⟨(hc o).2.mp (h6.2.trans hD.symm), Or.inl ⟨ht, ho⟩⟩)⟩ (hb' o h6.1.1)
    · cases hMo : zM0 ss n who sum free o with
      | false => rfl
      | true =>
        have h6 := (hM o).mp hMo
        exact absurd ⟨by omega, h6.1.2, Or.inr (Or.inr ⟨(hc o).2.mp (h6.2.trans hD.symm), Or.inr ⟨ht, h1⟩⟩)⟩ (hb' o h6.1.1)
  · rintro ⟨h1, h2, h3⟩ ⟨o, ho, hno, hnf, hbad⟩
    have hD := ((hM g).mp h1).2
    have h4 := a1 o ho ((hp o).mpr ⟨ho, hnf⟩)
    rcases hbad with q | q | ⟨q, r⟩
    · have := (hc o).1.mpr (Or.inl q); omega
    · have := (hc o).1.mpr (Or.inr q); omega
    · have h6 : zM0 ss n who sum free o = true := (hM o).mpr ⟨⟨ho, hnf⟩, by rw [(hc o).2.mpr q]; exact hD⟩
      rcases r with ⟨t, l⟩ | ⟨t, l⟩
      · have := h2 t o l; rw [h6] at this; cases this
      · have := h3 t o l ho; rw [h6] at this; cases this
theorem zAlike_ct {g : Nat} (hg : zM0 ss n who sum free g = true) : ∀ k, k ≤ n → zAlikeN ss sum g free k = zCt (fun o => decide (o ≠ g) && zM0 ss n who sum free o) k
  | 0, _ => rfl
  | k + 1, hk => by
    have h := zAlike_ct hg k (by omega)
    have hD := ((zM0_iff g).mp hg).2
    have hc := (zDst_cmp (ss := ss) (who := who) (sum := sum) g k).2
    unfold zAlikeN zCt
    rw [h]
    by_cases q : k ≠ g ∧ (k : Int) ≠ free ∧ zOff ss sum k = zOff ss sum g
    · have h2 : zM0 ss n who sum free k = true := (zM0_iff k).mpr ⟨⟨by omega, q.2.1⟩, by rw [hc.mpr q.2.2]; exact hD⟩
      rw [if_pos q, if_pos (by rw [h2, decide_eq_true q.1]; rfl)]
    · rw [if_neg q, if_neg (fun z => ?_)]
      rw [Bool.and_eq_true, decide_eq_true_iff, zM0_iff] at z
      exact q ⟨z.1, z.2.1.2, hc.mp (z.2.2.trans hD.symm)⟩
theorem zPop_p2 : ∀ j, j < 9 → zPop 9 (2 ^ j) = 1 := by decide
noncomputable def zQ0 (ss : Int → Int) (n : Nat) (who ties sum free : Int) : Nat → Bool := fun g => decide (0 < zSh ss n who ties sum g free)
theorem zSh_most (hw : who ≠ 2) (hn : n ≤ 9) (hS : zOkS ss n) (hs : 0 ≤ sum ∧ sum ≤ 20) (ht : 0 ≤ ties ∧ ties ≤ 2) (hex : ∃ g, g < n ∧ (g : Int) ≠ free) :
    zFm ss n ties (if who = 1 then 1 else 0) sum (zP0 n free) = ((zMaskN (zQ0 ss n who ties sum free) n : Nat) : Int) ∧
    ∀ g, g < n → zSh ss n who ties sum g free = if zQ0 ss n who ties sum free g = true then 2520 / ((zPop 9 (zMaskN (zQ0 ss n who ties sum free) n) : Nat) : Int) else 0 := by
  obtain ⟨a1, a2, _, a4⟩ := zFar_max (p := zP0 n free) (zDst_0 (who := who) hS hs) n (Nat.le_refl n)
  have a5 : (zFar (if who = 1 then 1 else 0) ss sum (zP0 n free) n).2 = zMaskN (zM0 ss n who sum free) n := a4
  have hgood : ∀ g, g < n → (g : Int) ≠ free → ¬ zBadN ss who ties sum g free n → zSh ss n who ties sum g free = (if ties = 1 then 2520 / (1 + (zAlikeN ss sum g free n : Int)) else 2520) := fun g hg hf hb => by
    rw [zSh, if_neg (by omega), if_neg hw, zShMost_good hb]
  have hpos : ∀ g : Nat, 0 < (if ties = 1 then 2520 / (1 + (zAlikeN ss sum g free n : Int)) else 2520) := fun g => by
    have := zAlikeN_le ss sum g free n
    split
    · have h0 : (0 : Int) < 1 + (zAlikeN ss sum g free n : Int) := by omega
      have h1 : (1 : Int) ≤ 2520 / (1 + (zAlikeN ss sum g free n : Int)) := (Int.le_ediv_iff_mul_le h0).mpr (by omega)
      omega
    · omega
  have hQ : ∀ g, g < n → (zQ0 ss n who ties sum free g = true ↔ (zM0 ss n who sum free g = true ∧ (ties = 0 → ∀ o, o < g → zM0 ss n who sum free o = false) ∧ (ties = 2 → ∀ o, g < o → o < n → zM0 ss n who sum free o = false))) := fun g hg => by
    unfold zQ0
    rw [decide_eq_true_iff]
    by_cases hf : (g : Int) = free
    · have h0 : zSh ss n who ties sum g free = 0 := by rw [zSh, if_pos (Or.inr hf)]
      rw [h0]
      exact ⟨fun z => by omega, fun z => absurd hf ((zM0_iff g).mp z.1).1.2⟩
    · rw [← zMost_iff hS hs hg hf]
      constructor
      · intro z hb
        rw [zSh, if_neg (by omega), if_neg hw, zShMost_bad hb] at z
        omega
      · intro hb
        rw [hgood g hg hf hb]; exact hpos g
  have hval : ∀ g, g < n → zQ0 ss n who ties sum free g = true → zSh ss n who ties sum g free = (if ties = 1 then 2520 / (1 + (zAlikeN ss sum g free n : Int)) else 2520) := fun g hg hq => by
    have h1 := (hQ g hg).mp hq
    have h2 := ((zM0_iff g).mp h1.1).1.2
    exact hgood g hg h2 ((zMost_iff hS hs hg h2).mpr h1)
  have hzero : ∀ g, ¬ zQ0 ss n who ties sum free g = true → zSh ss n who ties sum g free = 0 := fun g hq => by
    have h1 := zSh_in ss n who ties sum g free
    unfold zQ0 at hq
    rw [decide_eq_true_iff] at hq
    omega
  have hMex : ∃ g, g < n ∧ zM0 ss n who sum free g = true := by
    obtain ⟨g, h1, h2⟩ := hex
    obtain ⟨g0, b1, b2, b3⟩ := a2 ⟨g, h1, (zP0_iff g).mpr ⟨h1, h2⟩⟩
    exact ⟨g0, b1, (zM0_iff g0).mpr ⟨(zP0_iff g0).mp b2, b3⟩⟩
  have h512 := zMask9 (p := zM0 ss n who sum free) hn
  have htb := zMask_tb (zM0 ss n who sum free) n
  unfold zFm
  rw [a5]
  by_cases t1 : ties = 1
  · have hMQ : zMaskN (zM0 ss n who sum free) n = zMaskN (zQ0 ss n who ties sum free) n := zMask_cong (fun k hk => by
      have h1 := hQ k hk
      cases hq : zQ0 ss n who ties sum free k with
      | true => exact (h1.mp hq).1
      | false =>
        cases hm : zM0 ss n who sum free k with
        | false => rfl
        | true => rw [h1.mpr ⟨hm, fun z => by omega, fun z => by omega⟩] at hq; cases hq)
    rw [if_pos t1, hMQ]
    refine ⟨rfl, fun g hg => ?_⟩
    by_cases hq : zQ0 ss n who ties sum free g = true
    · have hm := ((hQ g hg).mp hq).1
      rw [if_pos hq, hval g hg hq, if_pos t1, ← hMQ, zPop_mask hn, zCt_rem hm hg, zAlike_ct hm n (Nat.le_refl n)]
      congr 1
      omega
    · rw [if_neg hq, hzero g hq]
  · have key : ∀ j, j < n → (∀ k, k < n → (zQ0 ss n who ties sum free k = true ↔ k = j)) → zOne ties (zMaskN (zM0 ss n who sum free) n) = ((2 ^ j : Nat) : Int) →
        (if ties = 1 then ((zMaskN (zM0 ss n who sum free) n : Nat) : Int) else zOne ties (zMaskN (zM0 ss n who sum free) n)) = ((zMaskN (zQ0 ss n who ties sum free) n : Nat) : Int) ∧
        ∀ g, g < n → zSh ss n who ties sum g free = if zQ0 ss n who ties sum free g = true then 2520 / ((zPop 9 (zMaskN (zQ0 ss n who ties sum free) n) : Nat) : Int) else 0 := by
      intro j hj hjq ho
      rw [if_neg t1, ho, zMask_one hj hjq, zPop_p2 j (by omega)]
      refine ⟨rfl, fun g hg => ?_⟩
      by_cases hq : zQ0 ss n who ties sum free g = true
      · rw [if_pos hq, hval g hg hq, if_neg t1]; rfl
      · rw [if_neg hq, hzero g hq]
    by_cases t2 : ties = 2
    · obtain ⟨j, j1, j2, j3⟩ := zLastEx hMex
      refine key j j1 (fun k hk => ?_) ?_
      · rw [hQ k hk]
        constructor
        · rintro ⟨h1, _, h3⟩
          rcases Nat.lt_trichotomy k j with h | h | h
          · have := h3 t2 j h j1; rw [j2] at this; cases this
          · exact h
          · have := j3 k h hk; rw [h1] at this; cases this
        · rintro rfl
          exact ⟨j2, fun z => by omega, fun _ => j3⟩
      · unfold zOne
        rw [if_pos t2]
        refine zLst_at (decide_eq_true ((zBit_mask hn (by omega)).mpr ⟨j1, j2⟩)) (by omega) (fun i h1 h2 => decide_eq_false (fun z => ?_))
        have h3 := (zBit_mask hn h2).mp z
        have := j3 i h1 h3.1
        rw [h3.2] at this; cases this
    · have t0 : ties = 0 := by omega
      obtain ⟨j, j1, j2, j3⟩ := zFirstEx hMex
      refine key j j1 (fun k hk => ?_) ?_
      · rw [hQ k hk]
        constructor
        · rintro ⟨h1, h2, _⟩
          rcases Nat.lt_trichotomy k j with h | h | h
          · have := j3 k h; rw [h1] at this; cases this
          · exact h
          · have := h2 t0 j h; rw [j2] at this; cases this
        · rintro rfl
          exact ⟨j2, fun _ => j3, fun z => by omega⟩
      · unfold zOne
        rw [if_neg t2]
        refine zLow9 _ h512 j (by omega) ?_ (fun i hi => ?_)
        · rw [htb, decide_eq_true j1, j2]; rfl
        · rw [htb, j3 i hi, Bool.and_false]
end Py
end
section
/-! THE BRIDGE: the farthest two; who pays; the reference's parts -/
def zAhB (ss : Int → Int) (ties sum : Int) (o g : Nat) : Bool := decide (zOff ss sum g < zOff ss sum o ∨ (zOff ss sum o = zOff ss sum g ∧ ((ties = 2 ∧ g < o) ∨ (ties ≠ 2 ∧ o < g))))
section Ah
variable {ss : Int → Int} {ties sum : Int}
theorem zAhB_iff (o g : Nat) : zAhB ss ties sum o g = true ↔ (zOff ss sum g < zOff ss sum o ∨ (zOff ss sum o = zOff ss sum g ∧ ((ties = 2 ∧ g < o) ∨ (ties ≠ 2 ∧ o < g)))) := decide_eq_true_iff
theorem zAhB_irr (g : Nat) : zAhB ss ties sum g g = false := decide_eq_false (by omega)
theorem zAhB_asym {o g : Nat} (h : zAhB ss ties sum o g = true) : zAhB ss ties sum g o = false := by
  have := (zAhB_iff o g).mp h
  exact decide_eq_false (by omega)
theorem zAhB_trans {o g k : Nat} (h : zAhB ss ties sum o g = true) (h2 : zAhB ss ties sum g k = true) : zAhB ss ties sum o k = true := by
  have a := (zAhB_iff o g).mp h
  have b := (zAhB_iff g k).mp h2
  exact decide_eq_true (by omega)
theorem zAhead_ct (g : Nat) : ∀ k, zAheadN ss ties sum g k = zCt (fun o => zAhB ss ties sum o g) k
  | 0 => rfl
  | k + 1 => by
    have h := zAhead_ct g k
    unfold zAheadN zCt
    rw [h]
    by_cases q : zOff ss sum g < zOff ss sum k ∨ (zOff ss sum k = zOff ss sum g ∧ ((ties = 2 ∧ g < k) ∨ (ties ≠ 2 ∧ k < g)))
    · rw [if_pos q, if_pos ((zAhB_iff k g).mpr q)]
    · rw [if_neg q, if_neg (fun z => q ((zAhB_iff k g).mp z))]
theorem zFst_spec {p : Nat → Bool} : ∀ {k : Nat}, (∃ g, g < k ∧ p g = true) → ∃ f, zFst ss ties sum p k = ((f : Nat) : Int) ∧ f < k ∧ p f = true ∧ ∀ g, g < k → p g = true → g ≠ f → zAhB ss ties sum f g = true
  | 0, ⟨g, h, _⟩ => absurd h (Nat.not_lt_zero _)
  | k + 1, ⟨g, h, hp⟩ => by
    have e : zFst ss ties sum p (k + 1) = if p k = true ∧ (zFst ss ties sum p k < 0 ∨ zOff ss sum (zFst ss ties sum p k).toNat < zOff ss sum k ∨ (ties = 2 ∧ zOff ss sum k = zOff ss sum (zFst ss ties sum p k).toNat)) then (k : Int) else zFst ss ties sum p k := rfl
    rcases Classical.em (∃ g, g < k ∧ p g = true) with q | q
    · obtain ⟨f, e1, hf, hpf, hb⟩ := zFst_spec q
      rw [e1, Int.toNat_natCast] at e
      by_cases c : p k = true ∧ ((f : Int) < 0 ∨ zOff ss sum f < zOff ss sum k ∨ (ties = 2 ∧ zOff ss sum k = zOff ss sum f))
      · rw [if_pos c] at e
        have hkf : zAhB ss ties sum k f = true := (zAhB_iff k f).mpr (by omega)
        refine ⟨k, e, by omega, c.1, fun g hg hpg hne => ?_⟩
        by_cases hgf : g = f
        · rw [hgf]; exact hkf
        · exact zAhB_trans hkf (hb g (by omega) hpg hgf)
      · rw [if_neg c] at e
        refine ⟨f, e, by omega, hpf, fun g hg hpg hne => ?_⟩
        by_cases hgk : g = k
        · subst hgk
          have c2 : ¬ ((f : Int) < 0 ∨ zOff ss sum f < zOff ss sum g ∨ (ties = 2 ∧ zOff ss sum g = zOff ss sum f)) := fun z => c ⟨hpg, z⟩
          exact (zAhB_iff f g).mpr (by omega)
        · exact hb g (by omega) hpg hne
    · have hgk : g = k := Classical.byContradiction fun z => q ⟨g, by omega, hp⟩
      subst hgk
      have hm : zFst ss ties sum p g < 0 := by
        have key : ∀ m, m ≤ g → zFst ss ties sum p m = -1 := by
          intro m
          induction m with
          | zero => intro _; rfl
          | succ m ih =>
            intro hm
            unfold zFst
            rw [if_neg (fun z => q ⟨m, by omega, z.1⟩)]
            exact ih (by omega)
        have := key g (Nat.le_refl g); omega
      rw [if_pos ⟨hp, Or.inl hm⟩] at e
      exact ⟨g, e, by omega, hp, fun o ho hpo hne => absurd ⟨o, by omega, hpo⟩ q⟩
/-- the two that pay -/
theorem zTwo_iff {n f s : Nat} (hf : f < n) (hs : s < n) (hfs : f ≠ s) (h1 : ∀ g, g < n → g ≠ f → zAhB ss ties sum f g = true) (h2 : ∀ g, g < n → g ≠ f → g ≠ s → zAhB ss ties sum s g = true) : ∀ g, g < n → (1 < zAheadN ss ties sum g n ↔ ¬ (g = f ∨ g = s)) := by
  intro g hg
  rw [zAhead_ct]
  by_cases q1 : g = f
  · subst q1
    have h0 : zCt (fun o => zAhB ss ties sum o g) n = 0 := zCt_0 (fun k hk => by
      by_cases e : k = g
      · rw [e]; exact zAhB_irr g
      · exact zAhB_asym (h1 k hk e))
    rw [h0]; omega
  · have a1 := zCt_rem (p := fun o => zAhB ss ties sum o g) (h1 g hg q1) hf
    rw [a1]
    by_cases q2 : g = s
    · subst q2
      have h0 : zCt (fun o => decide (o ≠ f) && zAhB ss ties sum o g) n = 0 := zCt_0 (fun k hk => by
        by_cases e : k = f
        · rw [decide_eq_false (show ¬ k ≠ f from fun z => z e), Bool.false_and]
        · by_cases e2 : k = g
          · rw [e2, zAhB_irr, Bool.and_false]
          · rw [zAhB_asym (h2 k hk e e2), Bool.and_false])
      rw [h0]; omega
    · have a2 := zCt_rem (p := fun o => decide (o ≠ f) && zAhB ss ties sum o g) (g := s) (by
        show (decide (s ≠ f) && zAhB ss ties sum s g) = true
        rw [decide_eq_true (show s ≠ f by omega), h2 g hg q1 q2]; rfl) hs
      rw [a2]; omega
end Ah
theorem zOr_two {p : Nat → Bool} {n f s : Nat} (hn : n ≤ 9) (hf : f < n) (hs : s < n) (h : ∀ k, k < n → (p k = true ↔ (k = f ∨ k = s))) : z_or (1 * 2 ^ ((f : Nat) : Int).toNat) (1 * 2 ^ ((s : Nat) : Int).toNat) = ((zMaskN p n : Nat) : Int) := by
  have b1 := z_p2lt f (by omega)
  have b2 := z_p2lt s (by omega)
  rw [z_p2 f (by omega), z_p2 s (by omega), z_orN (by omega) (by omega)]
  refine congrArg _ (Nat.eq_of_testBit_eq (fun k => ?_))
  rw [Nat.testBit_or, Nat.testBit_two_pow, Nat.testBit_two_pow, zMask_tb]
  by_cases hk : k < n
  · rw [decide_eq_true hk, Bool.true_and]
    by_cases e : k = f ∨ k = s
    · rw [(h k hk).mpr e]
      rcases e with e | e
      · rw [decide_eq_true e.symm, Bool.true_or]
      · rw [decide_eq_true e.symm, Bool.or_true]
    · have h3 : p k = false := by
        cases hp : p k with
        | false => rfl
        | true => exact absurd ((h k hk).mp hp) e
      rw [h3, decide_eq_false (show ¬ f = k by omega), decide_eq_false (show ¬ s = k by omega)]; rfl
  · rw [decide_eq_false hk, Bool.false_and, decide_eq_false (show ¬ f = k by omega), decide_eq_false (show ¬ s = k by omega)]; rfl
theorem zPyM_eq {ss : Int → Int} {n : Nat} {who ties sum : Int} (hn1 : 1 ≤ n) (hn : n ≤ 9) (hS : zOkS ss n) (hs : 0 ≤ sum ∧ sum ≤ 20) (hw : 0 ≤ who ∧ who ≤ 3) (ht : 0 ≤ ties ∧ ties ≤ 2) :
    zPyM ss n who ties sum = ((zMaskN (zPay ss n who ties sum) n : Nat) : Int) ∧
    ∀ g, g < n → zSh ss n who ties sum g (zFree ss n who) = if zPay ss n who ties sum g = true then 2520 / ((zPop 9 (zMaskN (zPay ss n who ties sum) n) : Nat) : Int) else 0 := by
  by_cases w2 : who = 2
  · have hfree : zFree ss n who = -1 := by rw [zFree, if_neg (by omega)]
    have hsh : ∀ g, g < n → zSh ss n who ties sum g (zFree ss n who) = zShTwo ss n ties sum g := fun g hg => by
      rw [hfree, zSh, if_neg (by omega), if_pos w2]
    have hpay : ∀ g, g < n → (zPay ss n who ties sum g = true ↔ ¬ 1 < zAheadN ss ties sum g n) := fun g hg => by
      unfold zPay
      rw [decide_eq_true_iff, hsh g hg, zShTwo]
      split
      · omega
      · split <;> omega
    by_cases n1 : n = 1
    · subst n1
      have h1 := zFst_in (ss := ss) (ties := ties) (sum := sum) (p := fun k => decide (k < 1)) 1
      have h2 := zFst_pos (ss := ss) (ties := ties) (sum := sum) (p := fun k => decide (k < 1)) (k := 0) (decide_eq_true (by omega)) 1 (by omega)
      have h3 : (zFst ss ties sum (fun k => decide (k < 1)) 1).toNat = 0 := by omega
      have h4 : ∀ k, k < 1 → zPay ss 1 who ties sum k = true := fun k hk => (hpay k hk).mpr (by
        have := zAheadN_le ss ties sum k 1; omega)
      have hm : zMaskN (zPay ss 1 who ties sum) 1 = 2 ^ 0 := zMask_one (by omega) (fun k hk => ⟨fun _ => by omega, fun _ => h4 k hk⟩)
      rw [hm, zPop_p2 0 (by omega), zPyM, if_pos w2, if_pos rfl, h3]
      refine ⟨rfl, fun g hg => ?_⟩
      have h5 := (hpay g hg).mp (h4 g hg)
      rw [if_pos (h4 g hg), hsh g hg, zShTwo, if_neg h5, if_pos rfl]
      rfl
    · obtain ⟨f, e1, f1, _, f3⟩ := zFst_spec (ss := ss) (ties := ties) (sum := sum) (p := fun k => decide (k < n)) (k := n) ⟨0, by omega, decide_eq_true (by omega)⟩
      have hk0 : ∃ k, k < n ∧ k ≠ f := by
        by_cases h0 : f = 0
        · exact ⟨1, by omega, by omega⟩
        · exact ⟨0, by omega, by omega⟩
      obtain ⟨k0, k1, k2⟩ := hk0
      obtain ⟨s, e2, s1, s2, s3⟩ := zFst_spec (ss := ss) (ties := ties) (sum := sum) (p := fun k => decide (k < n ∧ k ≠ f)) (k := n) ⟨k0, k1, decide_eq_true ⟨k1, k2⟩⟩
      have hsf := (of_decide_eq_true s2).2
      have htwo := zTwo_iff (ss := ss) (ties := ties) (sum := sum) f1 s1 (fun z => hsf z.symm) (fun g hg hne => f3 g hg (decide_eq_true hg) hne) (fun g hg hne hne2 => s3 g hg (decide_eq_true ⟨hg, hne⟩) hne2)
      have hpay2 : ∀ k, k < n → (zPay ss n who ties sum k = true ↔ (k = f ∨ k = s)) := fun k hk => by
        have a := hpay k hk
        have b := htwo k hk
        rw [a, b]; omega
      have hpop : zPop 9 (zMaskN (zPay ss n who ties sum) n) = 2 := by
        rw [zPop_mask hn, zCt_rem ((hpay2 f f1).mpr (Or.inl rfl)) f1, zCt_rem (g := s) (by
          show (decide (s ≠ f) && zPay ss n who ties sum s) = true
          rw [decide_eq_true hsf, (hpay2 s s1).mpr (Or.inr rfl)]; rfl) s1, zCt_0 (fun k hk => by
          show (decide (k ≠ s) && (decide (k ≠ f) && zPay ss n who ties sum k)) = false
          by_cases c1 : k = s
          · rw [decide_eq_false (show ¬ k ≠ s from fun z => z c1), Bool.false_and]
          · by_cases c2 : k = f
            · rw [decide_eq_false (show ¬ k ≠ f from fun z => z c2), Bool.false_and, Bool.and_false]
            · cases hp : zPay ss n who ties sum k with
              | false => rw [Bool.and_false, Bool.and_false]
              | true => exact absurd ((hpay2 k hk).mp hp) (by omega))]
      rw [hpop, zPyM, if_pos w2, if_neg n1, e1, Int.toNat_natCast, e2]
      refine ⟨zOr_two hn f1 s1 hpay2, fun g hg => ?_⟩
      have a := hpay g hg
      rw [hsh g hg, zShTwo]
      by_cases c : 1 < zAheadN ss ties sum g n
      · rw [if_pos c, if_neg (fun z => a.mp z c)]
      · rw [if_neg c, if_pos (a.mpr c), if_neg n1]; rfl
  · by_cases w3 : who = 3 ∧ 1 < n
    · obtain ⟨j, j1, j2, j3⟩ := zMid_free (ss := ss) (n := n) (by omega)
      have hfree : zFree ss n who = (j : Int) := by rw [w3.1]; exact j3
      have hk0 : ∃ k : Nat, k < n ∧ (k : Int) ≠ (j : Int) := by
        by_cases h0 : j = 0
        · exact ⟨1, by omega, by omega⟩
        · exact ⟨0, by omega, by omega⟩
      have h := zSh_most (ss := ss) (n := n) (who := who) (ties := ties) (sum := sum) (free := (j : Int)) w2 hn hS hs ht hk0
      have hpp : (fun k => decide (k < n ∧ k ≠ j)) = zP0 n (j : Int) := funext fun k => decide_eq_decide.mpr (by omega)
      rw [zPyM, if_neg w2, if_pos w3, j2, Int.toNat_natCast, hpp]
      rw [if_neg (show ¬ who = 1 by omega)] at h
      have hq : zPay ss n who ties sum = zQ0 ss n who ties sum (j : Int) := by
        unfold zPay zQ0
        rw [hfree]
      rw [hq, hfree]
      exact h
    · have hfree : zFree ss n who = -1 := by rw [zFree, if_neg (by omega)]
      have h := zSh_most (ss := ss) (n := n) (who := who) (ties := ties) (sum := sum) (free := -1) w2 hn hS hs ht ⟨0, by omega, by omega⟩
      have hpp : (fun k => decide (k < n)) = zP0 n (-1) := funext fun k => decide_eq_decide.mpr (by omega)
      rw [zPyM, if_neg w2, if_neg w3, hpp]
      have hq : zPay ss n who ties sum = zQ0 ss n who ties sum (-1) := by
        unfold zPay zQ0
        rw [hfree]
      rw [hq, hfree]
      exact h
section M11
variable {w ks ss : Int → Int} {n : Nat} {la su nm np ns : Int → Int} {sz : Nat} {tp : Int → Int} {tn pl : Nat} {rs : Int} {rd : Int → Int} {lp ik : Int} {kp : Int → Int} {km kn : Int} {ln rz it : Int → Int}
theorem c_Mo_payers2 {sum : Int} (hn1 : 1 ≤ n) (hn : n ≤ 9) (hS : zOkS ss n) (hs : 0 ≤ sum ∧ sum ≤ 20) (hlw : 0 ≤ la 0 ∧ la 0 ≤ 3) (hla : 0 ≤ la 1 ∧ la 1 ≤ 2) :
    zMet m_Mo_payers [.inr (.inr 0), .inl sum] (wMo w ks ss n la su nm np ns sz tp tn pl rs rd lp ik kp km kn ln rz it) (fun v wd => v = some (.inl ((zMaskN (zPay ss n (la 0) (la 1) sum) n : Nat) : Int)) ∧ wd = wMo w ks ss n la su nm np ns sz tp tn pl rs rd lp ik kp km kn ln rz it) := by
  have h := c_Mo_payers (w := w) (ks := ks) (ss := ss) (n := n) (la := la) (su := su) (nm := nm) (np := np) (ns := ns) (sz := sz) (tp := tp) (tn := tn) (pl := pl) (rs := rs) (rd := rd) (lp := lp) (ik := ik) (kp := kp) (km := km) (kn := kn) (ln := ln) (rz := rz) (it := it) hn1 hn hS hs hlw hla
  rw [(zPyM_eq hn1 hn hS hs hlw hla).1] at h
  exact h
theorem c_Mo_partsFor {g k : Nat} (hg : g < n) (hk : k ≤ 20) (hn : n ≤ 9) (hS : zOkS ss n) (hlw : 0 ≤ la 0 ∧ la 0 ≤ 3) (hla : 0 ≤ la 1 ∧ la 1 ≤ 2) :
    zMet m_Mo_partsFor [.inr (.inr 0), .inl (g : Int), .inl (k : Int)] (wMo w ks ss n la su nm np ns sz tp tn pl rs rd lp ik kp km kn ln rz it) (fun v wd => v = some (.inl (zDue ss n (la 0) (la 1) g k)) ∧ wd = wMo w ks ss n la su nm np ns sz tp tn pl rs rd lp ik kp km kn ln rz it) := by
  have hb := (zPyM_eq (ss := ss) (n := n) (sum := (k : Int)) (show 1 ≤ n by omega) hn hS (by omega) hlw hla).2 g hg
  have h9 := zMask9 (p := zPay ss n (la 0) (la 1) (k : Int)) hn
  have hbit := zBit_mask (p := zPay ss n (la 0) (la 1) (k : Int)) (k := g) hn (by omega)
  have hpos : zPay ss n (la 0) (la 1) (k : Int) g = true → 0 < zPop 9 (zMaskN (zPay ss n (la 0) (la 1) (k : Int)) n) := fun h => by
    rw [zPop_mask hn, zCt_rem h hg]; omega
  have hp9 := zPop_9 _ h9
  refine zMet.of (own := RX7) rfl (by decide +kernel) tk_Mo_partsFor fok_Mo cok_Mo (Nat.le_of_ble_eq_true rfl) (fun G hG => ?_)
  refine hG.1 [] 80 _ _ _ _ ?_
  refine hG.2.1 (c_Mo_payers2 (sum := (k : Int)) (show 1 ≤ n by omega) hn hS (by omega) hlw hla) yv_Mo_payers lk_Mo_150 (by decide +kernel) rfl rfl [0, 1, 2, 3, 4, 5, 6, 7, 8, 9, 10, 11, 12, 13, 14] (by decide +kernel) rfl rfl rfl (Nat.le_of_ble_eq_true rfl) (fun v w2 hv hl2 => ?_)
  obtain ⟨rfl, rfl⟩ := hv
  change G _ _ _ (wMo w ks ss n la su nm np ns sz tp tn pl rs rd lp ik kp km kn ln rz it)
  refine hG.1 [] 80 _ _ _ _ ?_
  refine hG.2.2.1 (c_Mo_has (x := ((zMaskN (zPay ss n (la 0) (la 1) (k : Int)) n : Nat) : Int)) (g := g) (by omega) (by omega)) ys_Mo_has (Or.inl lk_Mo_129) (by decide +kernel) rfl [] (by decide +kernel) rfl rfl rfl (Nat.le_of_ble_eq_true rfl) (fun v w2 hv hl2 => ?_)
  obtain ⟨⟨hc, rfl⟩ | ⟨hc, rfl⟩, rfl⟩ := hv
  · change G _ _ _ (wMo w ks ss n la su nm np ns sz tp tn pl rs rd lp ik kp km kn ln rz it)
    have hc2 := (hbit.mp hc).2
    have hp0 := hpos hc2
    refine hG.1 [] 80 _ _ _ _ ?_
    refine ⟨by omega, fun q => absurd q (by omega), fun q => ?_⟩
    refine hG.2.2.1 (c_Mo_ones (s := zMaskN (zPay ss n (la 0) (la 1) (k : Int)) n) h9) ys_Mo_ones (Or.inl lk_Mo_153) (by decide +kernel) rfl [] (by decide +kernel) rfl rfl rfl (Nat.le_of_ble_eq_true rfl) (fun v w2 hv hl2 => ?_)
    obtain ⟨rfl, rfl⟩ := hv
    change G _ _ _ (wMo w ks ss n la su nm np ns sz tp tn pl rs rd lp ik kp km kn ln rz it)
    refine hG.1 [] 80 _ _ _ _ ?_
    exact ⟨by omega, trivial, by rw [zDue, hb, if_pos hc2], rfl⟩
  · change G _ _ _ (wMo w ks ss n la su nm np ns sz tp tn pl rs rd lp ik kp km kn ln rz it)
    refine hG.1 [] 80 _ _ _ _ ?_
    refine ⟨by omega, fun q => ?_, fun q => absurd rfl q⟩
    exact ⟨trivial, by rw [zDue, hb, if_neg (fun z => hc (hbit.mpr ⟨hg, z⟩)), Int.mul_zero], rfl⟩
end M11
end
section
/-! THE REFERENCE: means, best slips, whether all are still -/
theorem zBet_ne {w ks ss : Int → Int} {n : Nat} {who ties : Int} {g : Nat} (h : zBet w ks ss n who ties g ≠ ss g) : zBet w ks ss n who ties g = (zLi w ss n who ties g : Int) := by
  unfold zBet at h ⊢
  by_cases a : ks g = 2
  · rw [if_pos a] at h; exact absurd rfl h
  · rw [if_neg a] at h ⊢
    by_cases b : zFs w ss n who ties g (zLi w ss n who ties g) < zBu w ss n who ties g
    · rw [if_pos b]
    · rw [if_neg b] at h; exact absurd rfl h
theorem zBet_still {w ks ss : Int → Int} {n : Nat} {who ties : Int} {g : Nat} : zBet w ks ss n who ties g = ss g ↔ (ks g = 2 ∨ zBu w ss n who ties g ≤ zFs w ss n who ties g (zLi w ss n who ties g)) := by
  unfold zBet
  by_cases a : ks g = 2
  · rw [if_pos a]; exact ⟨fun _ => Or.inl a, fun _ => rfl⟩
  · rw [if_neg a]
    by_cases b : zFs w ss n who ties g (zLi w ss n who ties g) < zBu w ss n who ties g
    · rw [if_pos b]
      refine ⟨fun z => ?_, fun z => by omega⟩
      have e : zFs w ss n who ties g (zLi w ss n who ties g) = zBu w ss n who ties g := by
        unfold zFs
        rw [z, z_u_self]
      omega
    · rw [if_neg b]; exact ⟨fun _ => Or.inr (by omega), fun _ => rfl⟩
section M12
variable {w ks ss : Int → Int} {n : Nat} {la su nm np ns : Int → Int} {sz : Nat} {tp : Int → Int} {tn pl : Nat} {rs : Int} {rd : Int → Int} {lp ik : Int} {kp : Int → Int} {km kn : Int} {ln rz it : Int → Int}
theorem c_Mo_meanParts {g : Nat} (hg : g < n) (hL : zOkL n (la 0) (la 1)) (hS : zOkS ss n) (hW : zOkW w) :
    zMet m_Mo_meanParts [.inr (.inr 0), .inl (g : Int)] (wMo w ks ss n la su nm np ns sz tp tn pl rs rd lp ik kp km kn ln rz it) (fun v wd => v = some (.inl (zBu w ss n (la 0) (la 1) g)) ∧ wd = wMo w ks ss n la su nm np ns sz tp tn pl rs rd lp ik kp km kn ln rz it) := by
  obtain ⟨hn, hlw, hla⟩ := hL
  refine zMet.of (own := RX7) rfl (by decide +kernel) tk_Mo_meanParts fok_Mo cok_Mo (Nat.le_of_ble_eq_true rfl) (fun G hG => ?_)
  refine hG.1 [4] 80 _ _ _ _ ?_
  have e1 : zBuN w ss n (la 0) (la 1) g 1 = 0 := by
    unfold zBuN; unfold zBuN
    simp
  suffices L : ∀ i, i ≤ 21 → (1 ≤ i → G 4 [(0, .inr (.inr 0)), (1, .inl (g : Int)), (2, .inl (zBuN w ss n (la 0) (la 1) g i)), (3, .inl (i : Int))] [] (wMo w ks ss n la su nm np ns sz tp tn pl rs rd lp ik kp km kn ln rz it)) by
    have := L 1 (by omega) (by omega)
    rw [e1] at this; exact this
  refine z_up (fun hb => ?_) (fun i hi ih hb => ?_)
  · refine hG.1 [] 80 _ _ _ _ ?_
    refine ⟨by omega, fun h1 => ?_, fun h1 => absurd h1 (by omega)⟩
    exact ⟨trivial, rfl, rfl⟩
  · have hwi := hW i hi
    have e : zBuN w ss n (la 0) (la 1) g (i + 1) = zBuN w ss n (la 0) (la 1) g i + (if 0 < w i then ((i : Int) * w i) * zSh ss n (la 0) (la 1) i g (zFree ss n (la 0)) else 0) := rfl
    have em : ((i : Int) * w i) * zSh ss n (la 0) (la 1) i g (zFree ss n (la 0)) = w i * zDue ss n (la 0) (la 1) g i := by
      rw [zDue, Int.mul_comm (i : Int) (w i), Int.mul_assoc]
    have ih := ih (by omega)
    rw [e, em] at ih
    refine hG.1 [4] 80 _ _ _ _ ?_
    refine ⟨by omega, fun h1 => absurd h1 (by omega), fun h1 => ?_⟩
    refine ⟨by omega, by omega, fun h2 => ?_, fun h2 => ?_⟩
    · refine ⟨by omega, ?_⟩
      refine hG.2.1 (c_Mo_partsFor (g := g) (k := i) hg (by omega) hn hS hlw hla) yv_Mo_partsFor lk_Mo_160 (by decide +kernel) rfl rfl [0, 1, 2, 3, 4, 5, 6, 7, 8, 9, 10, 11, 12, 13, 14] (by decide +kernel) rfl rfl rfl (Nat.le_of_ble_eq_true rfl) (fun v w2 hv hl2 => ?_)
      obtain ⟨rfl, rfl⟩ := hv
      change G _ _ _ (wMo w ks ss n la su nm np ns sz tp tn pl rs rd lp ik kp km kn ln rz it)
      rw [if_pos (by omega)] at ih
      refine hG.1 [4] 80 _ _ _ _ ?_
      exact ih
    · rw [if_neg (by omega)] at ih
      exact ih
theorem c_Mo_meanBy {g x : Nat} (hg : g < n) (hx : x ≤ 20) (hL : zOkL n (la 0) (la 1)) (hS : zOkS ss n) (hW : zOkW w) :
    zMet m_Mo_meanBy [.inr (.inr 0), .inl (g : Int), .inl (x : Int)] (wMo w ks ss n la su nm np ns sz tp tn pl rs rd lp ik kp km kn ln rz it) (fun v wd => v = some (.inl (zFs w ss n (la 0) (la 1) g x)) ∧ wd = wMo w ks ss n la su nm np ns sz tp tn pl rs rd lp ik kp km kn ln rz it) := by
  have hn := hL.1
  refine zMet.of (own := RX7) rfl (by decide +kernel) tk_Mo_meanBy fok_Mo cok_Mo (Nat.le_of_ble_eq_true rfl) (fun G hG => ?_)
  refine hG.1 [] 80 _ _ _ _ ?_
  refine ⟨by omega, by omega, ?_⟩
  refine hG.2.1 (c_Mo_meanParts (ss := z_u ss g x) (g := g) hg hL (zOkS_u hS (by omega)) hW) yv_Mo_meanParts lk_Mo_173 (by decide +kernel) rfl rfl [0, 1, 2, 3, 4, 5, 6, 7, 8, 9, 10, 11, 12, 13, 14] (by decide +kernel) rfl rfl rfl (Nat.le_of_ble_eq_true rfl) (fun v w2 hv hl2 => ?_)
  obtain ⟨rfl, rfl⟩ := hv
  change G _ _ _ (wMo w ks (z_u ss g x) n la su nm np ns sz tp tn pl rs rd lp ik kp km kn ln rz it)
  refine hG.1 [] 80 _ _ _ _ ?_
  refine ⟨by omega, trivial, rfl, ?_⟩
  show wMo w ks (z_u (z_u ss g x) g (ss g)) n la su nm np ns sz tp tn pl rs rd lp ik kp km kn ln rz it = wMo w ks ss n la su nm np ns sz tp tn pl rs rd lp ik kp km kn ln rz it
  rw [z_u_back]
theorem c_Mo_bestOf {g : Nat} (hg : g < n) (hL : zOkL n (la 0) (la 1)) (hS : zOkS ss n) (hW : zOkW w) :
    zMet m_Mo_bestOf [.inr (.inr 0), .inl (g : Int)] (wMo w ks ss n la su nm np ns sz tp tn pl rs rd lp ik kp km kn ln rz it) (fun v wd => v = some (.inl (zLi w ss n (la 0) (la 1) g : Int)) ∧ wd = wMo w ks ss n la su nm np ns sz tp tn pl rs rd lp ik kp km kn ln rz it) := by
  have hn := hL.1
  have hwb := zWei21 hW
  have hf : ∀ k, 0 ≤ zFs w ss n (la 0) (la 1) g k ∧ zFs w ss n (la 0) (la 1) g k ≤ 2520 * zWeiN w 21 + 1 := fun k => by
    have := zBu_in (w := w) (ss := z_u ss g k) (n := n) (who := la 0) (ties := la 1) (g := g) hW
    unfold zFs; omega
  have hf0 : zFs w ss n (la 0) (la 1) g 0 < 2520 * zWeiN w 21 + 1 := by
    have := zBu_in (w := w) (ss := z_u ss g ((0 : Nat) : Int)) (n := n) (who := la 0) (ties := la 1) (g := g) hW
    unfold zFs; omega
  have hmn := zMn_in (f := zFs w ss n (la 0) (la 1) g) (L0 := 2520 * zWeiN w 21 + 1) (M := 2520 * zWeiN w 21 + 1) (by omega) hf
  have m1 : zMn (zFs w ss n (la 0) (la 1) g) (2520 * zWeiN w 21 + 1) 1 = zFs w ss n (la 0) (la 1) g 0 := by
    unfold zMn; unfold zMn
    rw [if_pos hf0]
  have a1 : zAr (zFs w ss n (la 0) (la 1) g) (2520 * zWeiN w 21 + 1) 1 = 0 := by
    have := zAr_le (zFs w ss n (la 0) (la 1) g) (2520 * zWeiN w 21 + 1) 1
    omega
  refine zMet.of (own := RX7) rfl (by decide +kernel) tk_Mo_bestOf fok_Mo cok_Mo (Nat.le_of_ble_eq_true rfl) (fun G hG => ?_)
  refine hG.1 [] 80 _ _ _ _ ?_
  refine hG.2.1 (c_Mo_meanBy (g := g) (x := 0) hg (by omega) hL hS hW) yv_Mo_meanBy lk_Mo_176 (by decide +kernel) rfl rfl [0, 1, 2, 3, 4, 5, 6, 7, 8, 9, 10, 11, 12, 13, 14] (by decide +kernel) rfl rfl rfl (Nat.le_of_ble_eq_true rfl) (fun v w2 hv hl2 => ?_)
  obtain ⟨rfl, rfl⟩ := hv
  change G _ _ _ (wMo w ks ss n la su nm np ns sz tp tn pl rs rd lp ik kp km kn ln rz it)
  refine hG.1 [12] 80 _ _ _ _ ?_
  suffices L : ∀ i, i ≤ 21 → (1 ≤ i → G 12 [(0, .inr (.inr 0)), (1, .inl (g : Int)), (2, .inl (zAr (zFs w ss n (la 0) (la 1) g) (2520 * zWeiN w 21 + 1) i : Int)), (3, .inl (zMn (zFs w ss n (la 0) (la 1) g) (2520 * zWeiN w 21 + 1) i)), (4, .inl (i : Int))] [] (wMo w ks ss n la su nm np ns sz tp tn pl rs rd lp ik kp km kn ln rz it)) by
    have := L 1 (by omega) (by omega)
    rw [m1, a1] at this; exact this
  refine z_up (fun hb => ?_) (fun i hi ih hb => ?_)
  · refine hG.1 [] 80 _ _ _ _ ?_
    refine ⟨by omega, fun h1 => ?_, fun h1 => absurd h1 (by omega)⟩
    exact ⟨trivial, rfl, rfl⟩
  · have ih := ih (by omega)
    have ea : zAr (zFs w ss n (la 0) (la 1) g) (2520 * zWeiN w 21 + 1) (i + 1) = if zFs w ss n (la 0) (la 1) g i < zMn (zFs w ss n (la 0) (la 1) g) (2520 * zWeiN w 21 + 1) i then i else zAr (zFs w ss n (la 0) (la 1) g) (2520 * zWeiN w 21 + 1) i := rfl
    have em : zMn (zFs w ss n (la 0) (la 1) g) (2520 * zWeiN w 21 + 1) (i + 1) = if zFs w ss n (la 0) (la 1) g i < zMn (zFs w ss n (la 0) (la 1) g) (2520 * zWeiN w 21 + 1) i then zFs w ss n (la 0) (la 1) g i else zMn (zFs w ss n (la 0) (la 1) g) (2520 * zWeiN w 21 + 1) i := rfl
    have hfi := hf i
    have hmi := hmn i
    rw [ea, em] at ih
    refine hG.1 [12] 80 _ _ _ _ ?_
    refine ⟨by omega, fun h1 => absurd h1 (by omega), fun h1 => ?_⟩
    refine hG.2.1 (c_Mo_meanBy (g := g) (x := i) hg (by omega) hL hS hW) yv_Mo_meanBy lk_Mo_176 (by decide +kernel) rfl rfl [0, 1, 2, 3, 4, 5, 6, 7, 8, 9, 10, 11, 12, 13, 14] (by decide +kernel) rfl rfl rfl (Nat.le_of_ble_eq_true rfl) (fun v w2 hv hl2 => ?_)
    obtain ⟨rfl, rfl⟩ := hv
    change G _ _ _ (wMo w ks ss n la su nm np ns sz tp tn pl rs rd lp ik kp km kn ln rz it)
    refine hG.1 [12] 80 _ _ _ _ ?_
    refine ⟨by omega, fun h2 => ?_, fun h2 => ?_⟩
    · rw [if_neg (by omega), if_neg (by omega)] at ih
      refine ⟨by omega, fun h3 => ?_, fun h3 => absurd h3 (by omega)⟩
      exact hG.2.2.2.2.1 (fun q hq => List.mem_append_left _ hq) ih
    · rw [if_pos (by omega), if_pos (by omega)] at ih
      refine ⟨by omega, fun h3 => absurd h3 (by omega), fun h3 => ?_⟩
      exact hG.2.2.2.2.1 (fun q hq => List.mem_append_left _ hq) ih
theorem c_Mo_best {g : Int} (hg : -2147483648 ≤ g ∧ g ≤ 2147483647) (hL : zOkL n (la 0) (la 1)) (hS : zOkS ss n) (hW : zOkW w) :
    zMet m_Mo_best [.inr (.inr 0), .inl g] (wMo w ks ss n la su nm np ns sz tp tn pl rs rd lp ik kp km kn ln rz it) (fun v wd => v = some (.inl (if 0 ≤ g ∧ g < n then (if zSumN w 21 = 0 then -2 else (zLi w ss n (la 0) (la 1) g.toNat : Int)) else -1)) ∧ wd = wMo w ks ss n la su nm np ns sz tp tn pl rs rd lp ik kp km kn ln rz it) := by
  have hn := hL.1
  have hsum := zSumN_in hW
  refine zMet.of (own := RX7) rfl (by decide +kernel) tk_Mo_best fok_Mo cok_Mo (Nat.le_of_ble_eq_true rfl) (fun G hG => ?_)
  refine hG.1 [] 80 _ _ _ _ ?_
  refine hG.2.1 (c_Mo_isGuest (g := g) hg hn) yv_Mo_isGuest lk_Mo_75 (by decide +kernel) rfl rfl [0, 1, 2, 3, 4, 5, 6, 7, 8, 9, 10, 11, 12, 13, 14] (by decide +kernel) rfl rfl rfl (Nat.le_of_ble_eq_true rfl) (fun v w2 hv hl2 => ?_)
  obtain ⟨⟨hc, rfl⟩ | ⟨hc, rfl⟩, rfl⟩ := hv
  · change G _ _ _ (wMo w ks ss n la su nm np ns sz tp tn pl rs rd lp ik kp km kn ln rz it)
    refine hG.1 [] 80 _ _ _ _ ?_
    refine ⟨by omega, fun q => ?_, fun q => absurd q (by omega)⟩
    obtain ⟨k, rfl⟩ := z_nat hc.1
    refine hG.2.1 (c_Mo_allWeights ) yv_Mo_allWeights lk_Mo_79 (by decide +kernel) rfl rfl [0, 1, 2, 3, 4, 5, 6, 7, 8, 9, 10, 11, 12, 13, 14] (by decide +kernel) rfl rfl rfl (Nat.le_of_ble_eq_true rfl) (fun v w2 hv hl2 => ?_)
    obtain ⟨rfl, rfl⟩ := hv
    change G _ _ _ (wMo w ks ss n la su nm np ns sz tp tn pl rs rd lp ik kp km kn ln rz it)
    refine hG.1 [] 80 _ _ _ _ ?_
    refine ⟨by omega, fun h1 => ?_, fun h1 => ?_⟩
    · refine hG.2.1 (c_Mo_bestOf (g := k) (by omega) hL hS hW) yv_Mo_bestOf lk_Mo_179 (by decide +kernel) rfl rfl [0, 1, 2, 3, 4, 5, 6, 7, 8, 9, 10, 11, 12, 13, 14] (by decide +kernel) rfl rfl rfl (Nat.le_of_ble_eq_true rfl) (fun v w2 hv hl2 => ?_)
      obtain ⟨rfl, rfl⟩ := hv
      change G _ _ _ (wMo w ks ss n la su nm np ns sz tp tn pl rs rd lp ik kp km kn ln rz it)
      refine hG.1 [] 80 _ _ _ _ ?_
      exact ⟨trivial, by rw [if_pos hc, if_neg h1, Int.toNat_natCast] <;> rfl, rfl⟩
    · exact ⟨trivial, by rw [if_pos hc, if_pos h1] <;> rfl, rfl⟩
  · change G _ _ _ (wMo w ks ss n la su nm np ns sz tp tn pl rs rd lp ik kp km kn ln rz it)
    refine hG.1 [] 80 _ _ _ _ ?_
    refine ⟨by omega, fun q => absurd rfl q, fun q => ?_⟩
    exact ⟨trivial, by rw [if_neg hc] <;> rfl, rfl⟩
theorem c_Mo_isStill {g : Nat} (hg : g < n) (hL : zOkL n (la 0) (la 1)) (hS : zOkS ss n) (hW : zOkW w) (hK : zOkK ks n) :
    zMet m_Mo_isStill [.inr (.inr 0), .inl (g : Int)] (wMo w ks ss n la su nm np ns sz tp tn pl rs rd lp ik kp km kn ln rz it) (fun v wd => z_bool (zBet w ks ss n (la 0) (la 1) g = ss g) v ∧ wd = wMo w ks ss n la su nm np ns sz tp tn pl rs rd lp ik kp km kn ln rz it) := by
  have hn := hL.1
  have hwb := zWei21 hW
  have hbu := zBu_in (w := w) (ss := ss) (n := n) (who := la 0) (ties := la 1) (g := g) hW
  have hfs : 0 ≤ zFs w ss n (la 0) (la 1) g (zLi w ss n (la 0) (la 1) g) ∧ zFs w ss n (la 0) (la 1) g (zLi w ss n (la 0) (la 1) g) ≤ 2520 * zWeiN w 21 := zBu_in (w := w) (ss := z_u ss g (zLi w ss n (la 0) (la 1) g : Int)) (n := n) (who := la 0) (ties := la 1) (g := g) hW
  have hli : zLi w ss n (la 0) (la 1) g ≤ 20 := zAr_le _ _ 21
  have hkg := hK g hg
  have hst := zBet_still (w := w) (ks := ks) (ss := ss) (n := n) (who := la 0) (ties := la 1) (g := g)
  refine zMet.of (own := RX7) rfl (by decide +kernel) tk_Mo_isStill fok_Mo cok_Mo (Nat.le_of_ble_eq_true rfl) (fun G hG => ?_)
  refine hG.1 [] 80 _ _ _ _ ?_
  refine ⟨by omega, by omega, fun h1 => ?_, fun h1 => ?_⟩
  · exact ⟨Or.inr rfl, Or.inl ⟨hst.mpr (Or.inl h1), rfl⟩, rfl⟩
  · refine hG.2.1 (c_Mo_bestOf (g := g) hg hL hS hW) yv_Mo_bestOf lk_Mo_179 (by decide +kernel) rfl rfl [0, 1, 2, 3, 4, 5, 6, 7, 8, 9, 10, 11, 12, 13, 14] (by decide +kernel) rfl rfl rfl (Nat.le_of_ble_eq_true rfl) (fun v w2 hv hl2 => ?_)
    obtain ⟨rfl, rfl⟩ := hv
    change G _ _ _ (wMo w ks ss n la su nm np ns sz tp tn pl rs rd lp ik kp km kn ln rz it)
    refine hG.1 [] 80 _ _ _ _ ?_
    refine hG.2.1 (c_Mo_meanBy (g := g) (x := zLi w ss n (la 0) (la 1) g) hg hli hL hS hW) yv_Mo_meanBy lk_Mo_176 (by decide +kernel) rfl rfl [0, 1, 2, 3, 4, 5, 6, 7, 8, 9, 10, 11, 12, 13, 14] (by decide +kernel) rfl rfl rfl (Nat.le_of_ble_eq_true rfl) (fun v w2 hv hl2 => ?_)
    obtain ⟨rfl, rfl⟩ := hv
    change G _ _ _ (wMo w ks ss n la su nm np ns sz tp tn pl rs rd lp ik kp km kn ln rz it)
    refine hG.1 [] 80 _ _ _ _ ?_
    refine hG.2.1 (c_Mo_meanParts (g := g) hg hL hS hW) yv_Mo_meanParts lk_Mo_173 (by decide +kernel) rfl rfl [0, 1, 2, 3, 4, 5, 6, 7, 8, 9, 10, 11, 12, 13, 14] (by decide +kernel) rfl rfl rfl (Nat.le_of_ble_eq_true rfl) (fun v w2 hv hl2 => ?_)
    obtain ⟨rfl, rfl⟩ := hv
    change G _ _ _ (wMo w ks ss n la su nm np ns sz tp tn pl rs rd lp ik kp km kn ln rz it)
    refine hG.1 [] 80 _ _ _ _ ?_
    refine ⟨by omega, fun h2 => ?_, fun h2 => ?_⟩
    · exact ⟨Or.inl rfl, Or.inr ⟨fun z => by have := hst.mp z; omega, rfl⟩, rfl⟩
    · exact ⟨Or.inr rfl, Or.inl ⟨hst.mpr (Or.inr h2), rfl⟩, rfl⟩
theorem c_Mo_still (hL : zOkL n (la 0) (la 1)) (hS : zOkS ss n) (hW : zOkW w) (hK : zOkK ks n) :
    zMet m_Mo_still [.inr (.inr 0)] (wMo w ks ss n la su nm np ns sz tp tn pl rs rd lp ik kp km kn ln rz it) (fun v wd => ((zSumN w 21 = 0 ∧ v = some (.inl (-2))) ∨ (zSumN w 21 ≠ 0 ∧ z_bool (∀ g : Nat, g < n → zBet w ks ss n (la 0) (la 1) g = ss g) v)) ∧ wd = wMo w ks ss n la su nm np ns sz tp tn pl rs rd lp ik kp km kn ln rz it) := by
  have hn := hL.1
  have hsum := zSumN_in hW
  refine zMet.of (own := RX7) rfl (by decide +kernel) tk_Mo_still fok_Mo cok_Mo (Nat.le_of_ble_eq_true rfl) (fun G hG => ?_)
  refine hG.1 [] 80 _ _ _ _ ?_
  refine hG.2.1 (c_Mo_allWeights ) yv_Mo_allWeights lk_Mo_79 (by decide +kernel) rfl rfl [0, 1, 2, 3, 4, 5, 6, 7, 8, 9, 10, 11, 12, 13, 14] (by decide +kernel) rfl rfl rfl (Nat.le_of_ble_eq_true rfl) (fun v w2 hv hl2 => ?_)
  obtain ⟨rfl, rfl⟩ := hv
  change G _ _ _ (wMo w ks ss n la su nm np ns sz tp tn pl rs rd lp ik kp km kn ln rz it)
  refine hG.1 [14] 80 _ _ _ _ ?_
  refine ⟨by omega, fun h1 => ?_, fun h1 => ?_⟩
  · have bad : ∀ i : Nat, i ≤ n → ¬ (∀ g : Nat, g < n → zBet w ks ss n (la 0) (la 1) g = ss g) → G 14 [(0, .inr (.inr 0)), (1, .inl 0), (2, .inl (i : Int))] [] (wMo w ks ss n la su nm np ns sz tp tn pl rs rd lp ik kp km kn ln rz it) := by
      intro i hi hb
      refine hG.1 [] 80 _ _ _ _ ?_
      refine ⟨by omega, fun h2 => ?_, fun h2 => ?_⟩
      · refine ⟨by omega, fun h3 => ?_, fun h3 => absurd rfl h3⟩
        exact ⟨trivial, Or.inr ⟨h1, Or.inr ⟨hb, rfl⟩⟩, rfl⟩
      · refine ⟨by omega, fun h3 => ?_, fun h3 => absurd rfl h3⟩
        refine ⟨by omega, fun h3 => ?_, fun h3 => absurd rfl h3⟩
        exact ⟨trivial, Or.inr ⟨h1, Or.inr ⟨hb, rfl⟩⟩, rfl⟩
    suffices L : ∀ i, i ≤ n → ((∀ g : Nat, g < i → zBet w ks ss n (la 0) (la 1) g = ss g) → G 14 [(0, .inr (.inr 0)), (1, .inl 1), (2, .inl (i : Int))] [] (wMo w ks ss n la su nm np ns sz tp tn pl rs rd lp ik kp km kn ln rz it)) from L 0 (by omega) (fun g h => by omega)
    refine z_up (fun hb => ?_) (fun i hi ih hb => ?_)
    · refine hG.1 [] 80 _ _ _ _ ?_
      refine ⟨by omega, fun h2 => ?_, fun h2 => absurd h2 (by omega)⟩
      refine ⟨by omega, fun h3 => absurd h3 (by omega), fun h3 => ?_⟩
      exact ⟨trivial, Or.inr ⟨h1, Or.inl ⟨hb, rfl⟩⟩, rfl⟩
    · refine hG.1 [14] 80 _ _ _ _ ?_
      refine ⟨by omega, fun h2 => absurd h2 (by omega), fun h2 => ?_⟩
      refine ⟨by omega, fun h3 => absurd h3 (by omega), fun h3 => ?_⟩
      refine hG.2.1 (c_Mo_isStill (g := i) hi hL hS hW hK) yv_Mo_isStill lk_Mo_182 (by decide +kernel) rfl rfl [0, 1, 2, 3, 4, 5, 6, 7, 8, 9, 10, 11, 12, 13, 14] (by decide +kernel) rfl rfl rfl (Nat.le_of_ble_eq_true rfl) (fun v w2 hv hl2 => ?_)
      obtain ⟨⟨hc, rfl⟩ | ⟨hc, rfl⟩, rfl⟩ := hv
      · change G _ _ _ (wMo w ks ss n la su nm np ns sz tp tn pl rs rd lp ik kp km kn ln rz it)
        refine hG.1 [14] 80 _ _ _ _ ?_
        exact ih (fun g hg => by
          rcases Nat.lt_succ_iff_lt_or_eq.mp hg with h | rfl
          · exact hb g h
          · exact hc)
      · change G _ _ _ (wMo w ks ss n la su nm np ns sz tp tn pl rs rd lp ik kp km kn ln rz it)
        refine hG.1 [14] 80 _ _ _ _ ?_
        exact bad (i + 1) (by omega) (fun z => hc (z i hi))
  · exact ⟨trivial, Or.inl ⟨h1, rfl⟩, rfl⟩
end M12
end
section
/-! THE REFERENCE: turns, pays, mean -/
section M13
variable {w ks ss : Int → Int} {n : Nat} {la su nm np ns : Int → Int} {sz : Nat} {tp : Int → Int} {tn pl : Nat} {rs : Int} {rd : Int → Int} {lp ik : Int} {kp : Int → Int} {km kn : Int} {ln rz it : Int → Int}
theorem c_Mo_turns {t : Int} (ht : -2147483648 ≤ t ∧ t ≤ 2147483647) (hL : zOkL n (la 0) (la 1)) (hS : zOkS ss n) (hW : zOkW w) (hK : zOkK ks n) :
    zMet m_Mo_turns [.inr (.inr 0), .inl t] (wMo w ks ss n la su nm np ns sz tp tn pl rs rd lp ik kp km kn ln rz it) (fun v wd => ((1 ≤ t ∧ t ≤ 40) ∧ zSumN w 21 ≠ 0 ∧ v = some (.inl ((zTk w ks n (la 0) (la 1) t.toNat 0 0 0 ss).1 : Int)) ∧ wd = wMo w ks (zTk w ks n (la 0) (la 1) t.toNat 0 0 0 ss).2 n la su nm np ns sz tp tn pl rs rd lp ik kp km kn ln rz it) ∨ ((1 ≤ t ∧ t ≤ 40) ∧ zSumN w 21 = 0 ∧ v = some (.inl (-2)) ∧ wd = wMo w ks ss n la su nm np ns sz tp tn pl rs rd lp ik kp km kn ln rz it) ∨ (¬ (1 ≤ t ∧ t ≤ 40) ∧ v = some (.inl (-1)) ∧ wd = wMo w ks ss n la su nm np ns sz tp tn pl rs rd lp ik kp km kn ln rz it)) := by
  have hn := hL.1
  have hsum := zSumN_in hW
  refine zMet.of (own := RX7) rfl (by decide +kernel) tk_Mo_turns fok_Mo cok_Mo (Nat.le_of_ble_eq_true rfl) (fun G hG => ?_)
  refine hG.1 [] 80 _ _ _ _ ?_
  refine ⟨by omega, ?_⟩
  refine hG.2.2.1 (c_Mo_in (a := t) (b := 1) (c := 40) (by omega) (by omega) (by omega)) ys_Mo_in (Or.inl lk_Mo_55) (by decide +kernel) rfl [] (by decide +kernel) rfl rfl rfl (Nat.le_of_ble_eq_true rfl) (fun v w2 hv hl2 => ?_)
  obtain ⟨⟨hc, rfl⟩ | ⟨hc, rfl⟩, rfl⟩ := hv
  · change G _ _ _ (wMo w ks ss n la su nm np ns sz tp tn pl rs rd lp ik kp km kn ln rz it)
    refine hG.1 [] 80 _ _ _ _ ?_
    refine ⟨by omega, fun q => ?_, fun q => absurd q (by omega)⟩
    refine hG.2.1 (c_Mo_allWeights ) yv_Mo_allWeights lk_Mo_79 (by decide +kernel) rfl rfl [0, 1, 2, 3, 4, 5, 6, 7, 8, 9, 10, 11, 12, 13, 14] (by decide +kernel) rfl rfl rfl (Nat.le_of_ble_eq_true rfl) (fun v w2 hv hl2 => ?_)
    obtain ⟨rfl, rfl⟩ := hv
    change G _ _ _ (wMo w ks ss n la su nm np ns sz tp tn pl rs rd lp ik kp km kn ln rz it)
    obtain ⟨t, rfl⟩ := z_nat (show 0 ≤ t by omega)
    refine hG.1 [31] 80 _ _ _ _ ?_
    refine ⟨by omega, fun h0 => ?_, fun h0 => ?_⟩
    · have key : ∀ d i : Nat, i + d = t → ∀ (g kept ch : Nat) (s : Int → Int) (l : zL), l = [] ∨ (∃ x, l = [(5, .inl x)]) → (0 < n → g = i % n) → kept ≤ n → ch ≤ i → zOkS s n → zTk w ks n (la 0) (la 1) d g kept ch s = zTk w ks n (la 0) (la 1) (t : Int).toNat 0 0 0 ss → G 31 ([(0, .inr (.inr 0)), (1, .inl (t : Int)), (2, .inl (ch : Int)), (3, .inl (kept : Int)), (4, .inl (i : Int))] ++ l) [] (wMo w ks (s) n la su nm np ns sz tp tn pl rs rd lp ik kp km kn ln rz it) := by
        intro d
        induction d with
        | zero =>
          intro i hi g kept ch s l hl hg hk hch hs he
          refine hG.2.2.2.2.1 (fun q hq => List.mem_append_left _ hq) ?_
          refine hG.1 [] 80 _ _ _ _ ?_
          refine ⟨by omega, fun h1 => ?_, fun h1 => absurd h1 (by omega)⟩
          exact ⟨trivial, Or.inl ⟨hc, h0, by rw [← he] <;> rfl, by rw [← he] <;> rfl⟩⟩
        | succ d ih =>
          intro i hi g kept ch s l hl hg hk hch hs he
          refine hG.2.2.2.2.1 (fun q hq => List.mem_append_left _ hq) ?_
          have he2 : (if ¬ kept < n then (ch, s) else if zBet w ks s n (la 0) (la 1) g = s g then zTk w ks n (la 0) (la 1) d (if g + 1 < n then g + 1 else 0) (kept + 1) ch s else zTk w ks n (la 0) (la 1) d (if g + 1 < n then g + 1 else 0) 0 (ch + 1) (z_u s g (zBet w ks s n (la 0) (la 1) g))) = zTk w ks n (la 0) (la 1) (t : Int).toNat 0 0 0 ss := he
          refine hG.1 [31] 80 _ _ _ _ ?_
          refine ⟨by omega, fun h1 => absurd h1 (by omega), fun h1 => ?_⟩
          refine ⟨by omega, fun h2 => ?_, fun h2 => ?_⟩
          · rw [if_pos (by omega)] at he2
            exact ⟨trivial, Or.inl ⟨hc, h0, by rw [← he2], by rw [← he2]⟩⟩
          · rw [if_neg (by omega)] at he2
            have hgi : g = i % n := hg (by omega)
            have hgn : g < n := by rw [hgi]; exact Nat.mod_lt _ (by omega)
            have hnx : (if g + 1 < n then g + 1 else 0) = (i + 1) % n := by
              have e1 : (i + 1) % n = (g + 1) % n := by rw [hgi, Nat.mod_add_mod]
              rw [e1]
              by_cases c : g + 1 < n
              · rw [if_pos c, Nat.mod_eq_of_lt c]
              · rw [if_neg c, show g + 1 = n by omega, Nat.mod_self]
            have hge : ((i : Int) % (n : Int)) = (g : Int) := by rw [hgi, Int.natCast_emod]
            rw [hnx] at he2
            refine ⟨by omega, ?_⟩
            change G 57 [(0, .inr (.inr 0)), (1, .inl (t : Int)), (2, .inl (ch : Int)), (3, .inl (kept : Int)), (4, .inl (i : Int)), (5, .inl ((i : Int) % (n : Int)))] [.inl ((i : Int) % (n : Int)), .inr (.inr 0)] (wMo w ks (s) n la su nm np ns sz tp tn pl rs rd lp ik kp km kn ln rz it)
            rw [hge]
            refine hG.2.1 (c_Mo_isStill (ss := s) (g := g) hgn hL hs hW hK) yv_Mo_isStill lk_Mo_182 (by decide +kernel) rfl rfl [0, 1, 2, 3, 4, 5, 6, 7, 8, 9, 10, 11, 12, 13, 14] (by decide +kernel) rfl rfl rfl (Nat.le_of_ble_eq_true rfl) (fun v w2 hv hl2 => ?_)
            obtain ⟨⟨hb, rfl⟩ | ⟨hb, rfl⟩, rfl⟩ := hv
            · change G _ _ _ (wMo w ks (s) n la su nm np ns sz tp tn pl rs rd lp ik kp km kn ln rz it)
              rw [if_pos hb] at he2
              refine hG.1 [31] 80 _ _ _ _ ?_
              refine ⟨by omega, fun h3 => absurd h3 (by omega), fun h3 => ?_⟩
              exact ih (i + 1) (by omega) ((i + 1) % n) (kept + 1) ch s _ (Or.inr ⟨_, rfl⟩) (fun _ => rfl) (by omega) (by omega) hs he2
            · change G _ _ _ (wMo w ks (s) n la su nm np ns sz tp tn pl rs rd lp ik kp km kn ln rz it)
              rw [if_neg hb, zBet_ne hb] at he2
              have hli : zLi w s n (la 0) (la 1) g ≤ 20 := zAr_le _ _ 21
              refine hG.1 [31] 80 _ _ _ _ ?_
              refine ⟨by omega, fun h3 => ?_, fun h3 => absurd rfl h3⟩
              refine hG.2.1 (c_Mo_bestOf (ss := s) (g := g) hgn hL hs hW) yv_Mo_bestOf lk_Mo_179 (by decide +kernel) rfl rfl [0, 1, 2, 3, 4, 5, 6, 7, 8, 9, 10, 11, 12, 13, 14] (by decide +kernel) rfl rfl rfl (Nat.le_of_ble_eq_true rfl) (fun v w2 hv hl2 => ?_)
              obtain ⟨rfl, rfl⟩ := hv
              change G _ _ _ (wMo w ks (s) n la su nm np ns sz tp tn pl rs rd lp ik kp km kn ln rz it)
              refine hG.1 [31] 80 _ _ _ _ ?_
              refine ⟨by omega, ?_⟩
              exact ih (i + 1) (by omega) ((i + 1) % n) 0 (ch + 1) (z_u s g (zLi w s n (la 0) (la 1) g)) _ (Or.inr ⟨_, rfl⟩) (fun _ => rfl) (by omega) (by omega) (zOkS_u hs (by omega)) he2
      exact key t 0 (by omega) 0 0 0 ss [] (Or.inl rfl) (fun _ => (Nat.zero_mod n).symm) (by omega) (by omega) hS (by rw [Int.toNat_natCast])
    · exact ⟨trivial, Or.inr (Or.inl ⟨hc, h0, rfl, rfl⟩)⟩
  · change G _ _ _ (wMo w ks ss n la su nm np ns sz tp tn pl rs rd lp ik kp km kn ln rz it)
    refine hG.1 [] 80 _ _ _ _ ?_
    refine ⟨by omega, fun q => absurd rfl q, fun q => ?_⟩
    exact ⟨trivial, Or.inr (Or.inr ⟨hc, rfl, rfl⟩)⟩
theorem c_Mo_pays {g x part : Int} (hg : -2147483648 ≤ g ∧ g ≤ 2147483647) (hx : -2147483648 ≤ x ∧ x ≤ 2147483647) (hp : -2147483648 ≤ part ∧ part ≤ 2147483647) (hL : zOkL n (la 0) (la 1)) (hS : zOkS ss n) :
    zMet m_Mo_pays [.inr (.inr 0), .inl g, .inl x, .inl part] (wMo w ks ss n la su nm np ns sz tp tn pl rs rd lp ik kp km kn ln rz it) (fun v wd => v = some (.inl (if (0 ≤ g ∧ g < n) ∧ (0 ≤ x ∧ x < 21) ∧ (part = 0 ∨ part = 1) then zLow (zDue ss n (la 0) (la 1) g.toNat x.toNat).toNat 2520 part else -1)) ∧ wd = wMo w ks ss n la su nm np ns sz tp tn pl rs rd lp ik kp km kn ln rz it) := by
  obtain ⟨hn, hwho, hties⟩ := hL
  refine zMet.of (own := RX7) rfl (by decide +kernel) tk_Mo_pays fok_Mo cok_Mo (Nat.le_of_ble_eq_true rfl) (fun G hG => ?_)
  refine hG.1 [] 80 _ _ _ _ ?_
  refine hG.2.1 (c_Mo_isGuest (g := g) hg hn) yv_Mo_isGuest lk_Mo_75 (by decide +kernel) rfl rfl [0, 1, 2, 3, 4, 5, 6, 7, 8, 9, 10, 11, 12, 13, 14] (by decide +kernel) rfl rfl rfl (Nat.le_of_ble_eq_true rfl) (fun v w2 hv hl2 => ?_)
  obtain ⟨⟨hc, rfl⟩ | ⟨hc, rfl⟩, rfl⟩ := hv
  · change G _ _ _ (wMo w ks ss n la su nm np ns sz tp tn pl rs rd lp ik kp km kn ln rz it)
    refine hG.1 [] 80 _ _ _ _ ?_
    refine ⟨by omega, fun h1 => absurd h1 (by omega), fun h1 => ?_⟩
    refine ⟨by omega, ?_⟩
    refine hG.2.2.1 (c_Mo_isSum (x := x) (by omega)) ys_Mo_isSum (Or.inl lk_Mo_63) (by decide +kernel) rfl [] (by decide +kernel) rfl rfl rfl (Nat.le_of_ble_eq_true rfl) (fun v w2 hv hl2 => ?_)
    obtain ⟨⟨hc2, rfl⟩ | ⟨hc2, rfl⟩, rfl⟩ := hv
    · change G _ _ _ (wMo w ks ss n la su nm np ns sz tp tn pl rs rd lp ik kp km kn ln rz it)
      refine hG.1 [] 80 _ _ _ _ ?_
      refine ⟨by omega, fun h2 => absurd h2 (by omega), fun h2 => ?_⟩
      refine ⟨by omega, ?_⟩
      refine hG.2.2.1 (c_Mo_in (a := part) (b := 0) (c := 1) (by omega) (by omega) (by omega)) ys_Mo_in (Or.inl lk_Mo_55) (by decide +kernel) rfl [] (by decide +kernel) rfl rfl rfl (Nat.le_of_ble_eq_true rfl) (fun v w2 hv hl2 => ?_)
      obtain ⟨⟨hc3, rfl⟩ | ⟨hc3, rfl⟩, rfl⟩ := hv
      · change G _ _ _ (wMo w ks ss n la su nm np ns sz tp tn pl rs rd lp ik kp km kn ln rz it)
        refine hG.1 [] 80 _ _ _ _ ?_
        refine ⟨by omega, fun h3 => ?_, fun h3 => absurd h3 (by omega)⟩
        obtain ⟨k, rfl⟩ := z_nat hc.1
        obtain ⟨j, rfl⟩ := z_nat hc2.1
        have hkn : k < n := by omega
        refine hG.2.1 (c_Mo_partsFor (g := k) (k := j) hkn (by omega) hn hS hwho hties) yv_Mo_partsFor lk_Mo_160 (by decide +kernel) rfl rfl [0, 1, 2, 3, 4, 5, 6, 7, 8, 9, 10, 11, 12, 13, 14] (by decide +kernel) rfl rfl rfl (Nat.le_of_ble_eq_true rfl) (fun v w2 hv hl2 => ?_)
        obtain ⟨rfl, rfl⟩ := hv
        change G _ _ _ (wMo w ks ss n la su nm np ns sz tp tn pl rs rd lp ik kp km kn ln rz it)
        have hsh := zSh_in ss n (la 0) (la 1) j k (zFree ss n (la 0))
        have hd0 : 0 ≤ zDue ss n (la 0) (la 1) k j := Int.mul_nonneg (by omega) hsh.1
        have hd1 : zDue ss n (la 0) (la 1) k j ≤ 20 * 2520 := Int.mul_le_mul (by omega) hsh.2 hsh.1 (by omega)
        obtain ⟨t, ht⟩ := z_nat hd0
        rw [ht]
        refine hG.1 [] 80 _ _ _ _ ?_
        refine ⟨by omega, ?_⟩
        refine hG.2.2.1 (c_Mo_part (t := t) (b := 2520) (part := part) (by omega) (by omega) (by omega)) ys_Mo_part (Or.inl lk_Mo_165) (by decide +kernel) rfl [] (by decide +kernel) rfl rfl rfl (Nat.le_of_ble_eq_true rfl) (fun v w2 hv hl2 => ?_)
        obtain ⟨rfl, rfl⟩ := hv
        change G _ _ _ (wMo w ks ss n la su nm np ns sz tp tn pl rs rd lp ik kp km kn ln rz it)
        refine hG.1 [] 80 _ _ _ _ ?_
        refine Or.inl ?_
        exact ⟨trivial, by rw [if_pos ⟨hc, hc2, show part = 0 ∨ part = 1 by omega⟩, Int.toNat_natCast, Int.toNat_natCast, ht, Int.toNat_natCast] <;> rfl, rfl⟩
      · change G _ _ _ (wMo w ks ss n la su nm np ns sz tp tn pl rs rd lp ik kp km kn ln rz it)
        refine hG.1 [] 80 _ _ _ _ ?_
        refine ⟨by omega, fun h3 => absurd rfl h3, fun h3 => ?_⟩
        exact ⟨trivial, by rw [if_neg (fun z => hc3 (by have := z.2.2; omega))], rfl⟩
    · change G _ _ _ (wMo w ks ss n la su nm np ns sz tp tn pl rs rd lp ik kp km kn ln rz it)
      refine hG.1 [] 80 _ _ _ _ ?_
      refine ⟨by omega, fun h2 => ?_, fun h2 => absurd rfl h2⟩
      exact ⟨trivial, by rw [if_neg (fun z => hc2 z.2.1)], rfl⟩
  · change G _ _ _ (wMo w ks ss n la su nm np ns sz tp tn pl rs rd lp ik kp km kn ln rz it)
    refine hG.1 [] 80 _ _ _ _ ?_
    refine ⟨by omega, fun h1 => ?_, fun h1 => absurd rfl h1⟩
    exact ⟨trivial, by rw [if_neg (fun z => hc z.1)], rfl⟩
theorem c_Mo_mean {g part : Int} (hg : -2147483648 ≤ g ∧ g ≤ 2147483647) (hp : -2147483648 ≤ part ∧ part ≤ 2147483647) (hL : zOkL n (la 0) (la 1)) (hS : zOkS ss n) (hW : zOkW w) :
    zMet m_Mo_mean [.inr (.inr 0), .inl g, .inl part] (wMo w ks ss n la su nm np ns sz tp tn pl rs rd lp ik kp km kn ln rz it) (fun v wd => v = some (.inr (.inl (if (0 ≤ g ∧ g < n) ∧ (part = 0 ∨ part = 1) then (if zSumN w 21 = 0 then -2 else zLow (zBu w ss n (la 0) (la 1) g.toNat).toNat (2520 * (zSumN w 21).toNat) part) else -1))) ∧ wd = wMo w ks ss n la su nm np ns sz tp tn pl rs rd lp ik kp km kn ln rz it) := by
  have hn := hL.1
  have hsum := zSumN_in hW
  have hwei := zWei21 hW
  refine zMet.of (own := RX7) rfl (by decide +kernel) tk_Mo_mean fok_Mo cok_Mo (Nat.le_of_ble_eq_true rfl) (fun G hG => ?_)
  refine hG.1 [] 80 _ _ _ _ ?_
  refine hG.2.1 (c_Mo_isGuest (g := g) hg hn) yv_Mo_isGuest lk_Mo_75 (by decide +kernel) rfl rfl [0, 1, 2, 3, 4, 5, 6, 7, 8, 9, 10, 11, 12, 13, 14] (by decide +kernel) rfl rfl rfl (Nat.le_of_ble_eq_true rfl) (fun v w2 hv hl2 => ?_)
  obtain ⟨⟨hc, rfl⟩ | ⟨hc, rfl⟩, rfl⟩ := hv
  · change G _ _ _ (wMo w ks ss n la su nm np ns sz tp tn pl rs rd lp ik kp km kn ln rz it)
    refine hG.1 [] 80 _ _ _ _ ?_
    refine ⟨by omega, fun h1 => absurd h1 (by omega), fun h1 => ?_⟩
    refine ⟨by omega, ?_⟩
    refine hG.2.2.1 (c_Mo_in (a := part) (b := 0) (c := 1) (by omega) (by omega) (by omega)) ys_Mo_in (Or.inl lk_Mo_55) (by decide +kernel) rfl [] (by decide +kernel) rfl rfl rfl (Nat.le_of_ble_eq_true rfl) (fun v w2 hv hl2 => ?_)
    obtain ⟨⟨hc3, rfl⟩ | ⟨hc3, rfl⟩, rfl⟩ := hv
    · change G _ _ _ (wMo w ks ss n la su nm np ns sz tp tn pl rs rd lp ik kp km kn ln rz it)
      have hc4 : part = 0 ∨ part = 1 := by omega
      refine hG.1 [] 80 _ _ _ _ ?_
      refine ⟨by omega, fun h3 => ?_, fun h3 => absurd h3 (by omega)⟩
      obtain ⟨k, rfl⟩ := z_nat hc.1
      have hkn : k < n := by omega
      refine hG.2.1 (c_Mo_allWeights ) yv_Mo_allWeights lk_Mo_79 (by decide +kernel) rfl rfl [0, 1, 2, 3, 4, 5, 6, 7, 8, 9, 10, 11, 12, 13, 14] (by decide +kernel) rfl rfl rfl (Nat.le_of_ble_eq_true rfl) (fun v w2 hv hl2 => ?_)
      obtain ⟨rfl, rfl⟩ := hv
      change G _ _ _ (wMo w ks ss n la su nm np ns sz tp tn pl rs rd lp ik kp km kn ln rz it)
      obtain ⟨t, ht⟩ := z_nat hsum.1
      refine hG.1 [] 80 _ _ _ _ ?_
      refine ⟨by omega, fun h4 => ?_, fun h4 => ?_⟩
      · refine hG.2.1 (c_Mo_meanParts (g := k) hkn hL hS hW) yv_Mo_meanParts lk_Mo_173 (by decide +kernel) rfl rfl [0, 1, 2, 3, 4, 5, 6, 7, 8, 9, 10, 11, 12, 13, 14] (by decide +kernel) rfl rfl rfl (Nat.le_of_ble_eq_true rfl) (fun v w2 hv hl2 => ?_)
        obtain ⟨rfl, rfl⟩ := hv
        change G _ _ _ (wMo w ks ss n la su nm np ns sz tp tn pl rs rd lp ik kp km kn ln rz it)
        have hb := zBu_in (w := w) (ss := ss) (n := n) (who := la 0) (ties := la 1) (g := k) hW
        obtain ⟨b, hbe⟩ := z_nat hb.1
        rw [hbe]
        refine hG.1 [] 80 _ _ _ _ ?_
        refine ⟨by omega, ?_⟩
        refine hG.2.1 (c_Mo_allWeights ) yv_Mo_allWeights lk_Mo_79 (by decide +kernel) rfl rfl [0, 1, 2, 3, 4, 5, 6, 7, 8, 9, 10, 11, 12, 13, 14] (by decide +kernel) rfl rfl rfl (Nat.le_of_ble_eq_true rfl) (fun v w2 hv hl2 => ?_)
        obtain ⟨rfl, rfl⟩ := hv
        change G _ _ _ (wMo w ks ss n la su nm np ns sz tp tn pl rs rd lp ik kp km kn ln rz it)
        rw [ht]
        refine hG.1 [] 80 _ _ _ _ ?_
        refine ⟨by omega, ?_⟩
        refine hG.2.2.1 (c_Mo_part (t := b) (b := 2520 * t) (part := part) (by omega) (by omega) hc4) ys_Mo_part (Or.inl lk_Mo_165) (by decide +kernel) rfl [] (by decide +kernel) rfl rfl rfl (Nat.le_of_ble_eq_true rfl) (fun v w2 hv hl2 => ?_)
        obtain ⟨rfl, rfl⟩ := hv
        change G _ _ _ (wMo w ks ss n la su nm np ns sz tp tn pl rs rd lp ik kp km kn ln rz it)
        refine hG.1 [] 80 _ _ _ _ ?_
        exact ⟨trivial, by rw [if_pos ⟨hc, hc4⟩, if_neg (by omega), Int.toNat_natCast, hbe, Int.toNat_natCast, ht, Int.toNat_natCast] <;> rfl, rfl⟩
      · exact ⟨trivial, by rw [if_pos ⟨hc, hc4⟩, if_pos (by omega)], rfl⟩
    · change G _ _ _ (wMo w ks ss n la su nm np ns sz tp tn pl rs rd lp ik kp km kn ln rz it)
      refine hG.1 [] 80 _ _ _ _ ?_
      refine ⟨by omega, fun h3 => absurd rfl h3, fun h3 => ?_⟩
      exact ⟨trivial, by rw [if_neg (fun z => hc3 (by have := z.2; omega))], rfl⟩
  · change G _ _ _ (wMo w ks ss n la su nm np ns sz tp tn pl rs rd lp ik kp km kn ln rz it)
    refine hG.1 [] 80 _ _ _ _ ?_
    refine ⟨by omega, fun h1 => ?_, fun h1 => absurd rfl h1⟩
    exact ⟨trivial, by rw [if_neg (fun z => hc z.1)], rfl⟩
end M13
end
section
/-! THE REFERENCE: leagues, shunning -/
def zHf (f : Nat → Int) : Nat → Nat × Int
  | 0 => (0, -1)
  | k + 1 => if (zHf f k).2 < f k then (k, f k) else zHf f k
theorem zHf_in {f : Nat → Int} {M : Int} (hM : 0 ≤ M) (hf : ∀ k, 0 ≤ f k ∧ f k ≤ M) : ∀ k, ((zHf f k).1 = 0 ∨ (zHf f k).1 < k) ∧ (-1 ≤ (zHf f k).2 ∧ (zHf f k).2 ≤ M)
  | 0 => ⟨Or.inl rfl, by show (-1 : Int) ≤ -1 ∧ (-1 : Int) ≤ M; omega⟩
  | k + 1 => by
    obtain ⟨h1, h2⟩ := zHf_in hM hf k
    have h3 := hf k
    unfold zHf
    split
    · exact ⟨Or.inr (Nat.lt_succ_self k), by dsimp only; omega⟩
    · exact ⟨by omega, h2⟩
theorem zHf_ge {f : Nat → Int} : ∀ k p, p < k → f p ≤ (zHf f k).2
  | 0, p, h => absurd h (Nat.not_lt_zero _)
  | k + 1, p, h => by
    have h1 := zHf_ge (f := f) k p
    unfold zHf
    by_cases e : p = k
    · subst e
      split
      · exact Int.le_refl _
      · omega
    · have := h1 (by omega)
      split
      · dsimp only; omega
      · exact this
theorem zHf_at {f : Nat → Int} (hf : ∀ k, 0 ≤ f k) : ∀ k, 0 < k → f (zHf f k).1 = (zHf f k).2
  | 0, h => absurd h (Nat.lt_irrefl 0)
  | 1, _ => by
    have e : zHf f 1 = (0, f 0) := by
      show (if (-1 : Int) < f 0 then (0, f 0) else _) = _
      rw [if_pos (by have := hf 0; omega)]
    rw [e]
  | k + 2, _ => by
    have h := zHf_at hf (k + 1) (by omega)
    have e : zHf f (k + 2) = if (zHf f (k + 1)).2 < f (k + 1) then (k + 1, f (k + 1)) else zHf f (k + 1) := rfl
    rw [e]
    split
    · rfl
    · exact h
theorem zHp_run {f : Nat → Int} {en : Int} : ∀ d p, ∃ q, q ≤ p + d ∧ zHp f en d p (zHf f p).1 (zHf f p).2 = zHf f q ∧ (q = p + d ∨ en ≤ (zHf f q).2)
  | 0, p => ⟨p, Nat.le_refl _, rfl, Or.inl rfl⟩
  | d + 1, p => by
    have e : zHp f en (d + 1) p (zHf f p).1 (zHf f p).2 = if (zHf f p).2 < en then (if (zHf f p).2 < f p then zHp f en d (p + 1) p (f p) else zHp f en d (p + 1) (zHf f p).1 (zHf f p).2) else ((zHf f p).1, (zHf f p).2) := rfl
    obtain ⟨q, h1, h2, h3⟩ := zHp_run (f := f) (en := en) d (p + 1)
    have e2 : zHf f (p + 1) = if (zHf f p).2 < f p then (p, f p) else zHf f p := rfl
    by_cases c : (zHf f p).2 < en
    · rw [if_pos c] at e
      refine ⟨q, by omega, ?_, by omega⟩
      rw [e, ← h2, e2]
      split
      · rfl
      · rfl
    · rw [if_neg c] at e
      exact ⟨p, by omega, e, Or.inr (by omega)⟩
theorem zHf_stay {f : Nat → Int} {p : Nat} (h : ∀ q, f q ≤ (zHf f p).2) : ∀ d, zHf f (p + d) = zHf f p
  | 0 => rfl
  | d + 1 => by
    have h1 := zHf_stay h d
    show (if (zHf f (p + d)).2 < f (p + d) then (p + d, f (p + d)) else zHf f (p + d)) = _
    have := h (p + d)
    rw [h1, if_neg (by omega)]
theorem zHp_full {f : Nat → Int} {en : Int} (hf : ∀ q, f q ≤ en) : zHp f en 441 0 0 (-1) = zHf f 441 := by
  obtain ⟨q, h1, h2, h3⟩ := zHp_run (f := f) (en := en) 441 0
  have h4 : zHp f en 441 0 0 (-1) = zHf f q := h2
  rw [h4]
  rcases h3 with h3 | h3
  · rw [h3, Nat.zero_add]
  · have := zHf_stay (f := f) (p := q) (fun x => by have := hf x; omega) (441 - q)
    rw [← this, show q + (441 - q) = 441 by omega]
theorem zHp_cmp {f : Nat → Int} {en : Int} (hf : ∀ q, 0 ≤ f q) (hen : 0 ≤ en) : (f (zHp f en 441 0 0 (-1)).1 < en ↔ (zHf f 441).2 < en) ∧ ((zHf f 441).2 < en → f (zHp f en 441 0 0 (-1)).1 = (zHf f 441).2) := by
  obtain ⟨q, h1, h2, h3⟩ := zHp_run (f := f) (en := en) 441 0
  have h4 : zHp f en 441 0 0 (-1) = zHf f q := h2
  rw [h4]
  have hq : 0 < q := by
    rcases Nat.eq_zero_or_pos q with h | h
    · subst h
      have e : (zHf f 0).2 = -1 := rfl
      omega
    · exact h
  have h5 := zHf_at hf q hq
  have h6 := zHf_ge (f := f) 441
  rcases h3 with h3 | h3
  · have e : q = 441 := by omega
    subst e
    rw [h5]
    exact ⟨Iff.rfl, fun _ => rfl⟩
  · have h7 : (zHf f q).1 < 441 := by
      have := zHf_in (f := fun k => if k < 442 then f k else 0) (M := 0)
      rcases Nat.lt_or_ge (zHf f q).1 441 with h | h
      · exact h
      · exfalso
        have key : ∀ k, k ≤ 441 → 0 < k → (zHf f k).1 < k := by
          intro k
          induction k with
          | zero => intro _ h0; omega
          | succ k ih =>
            intro hk _
            have e : zHf f (k + 1) = if (zHf f k).2 < f k then (k, f k) else zHf f k := rfl
            rw [e]
            split
            · exact Nat.lt_succ_self k
            · rcases Nat.eq_zero_or_pos k with h0 | h0
              · subst h0; exact Nat.lt_succ_self 0
              · have := ih (by omega) h0; omega
        have := key q (by omega) hq
        omega
    have h8 := h6 _ h7
    rw [h5] at h8 ⊢
    exact ⟨⟨fun z => by omega, fun z => by omega⟩, fun z => by omega⟩
theorem zSf_in {w ss : Int → Int} {n : Nat} {who ties : Int} {a b c : Nat} (hW : zOkW w) : ∀ k, ((zSf w ss n who ties a b c k).1 ≤ k) ∧ 0 ≤ (zSf w ss n who ties a b c k).2 ∧ (zSf w ss n who ties a b c k).2 ≤ 2520 * zWeiN w 21 + 1
  | 0 => by
    have := zWei21 hW
    show 0 ≤ 0 ∧ 0 ≤ 2520 * zWeiN w 21 + 1 ∧ 2520 * zWeiN w 21 + 1 ≤ _
    omega
  | k + 1 => by
    have ih := zSf_in (ss := ss) (n := n) (who := who) (ties := ties) (a := a) (b := b) (c := c) hW k
    unfold zSf
    split
    · have : 0 ≤ zFp w (z_u ss c k) n who ties a b c (zHp (zFp w (z_u ss c k) n who ties a b c) (zSf w ss n who ties a b c k).2 441 0 0 (-1)).1 ∧ zFp w (z_u ss c k) n who ties a b c (zHp (zFp w (z_u ss c k) n who ties a b c) (zSf w ss n who ties a b c k).2 441 0 0 (-1)).1 ≤ 2520 * zWeiN w 21 := zBu_in hW
      dsimp only
      omega
    · omega
theorem zSf_step {w ss : Int → Int} {n : Nat} {who ties : Int} {a b c : Nat} (hW : zOkW w) (k : Nat) : zSf w ss n who ties a b c (k + 1) = if (zHf (zFp w (z_u ss c k) n who ties a b c) 441).2 < (zSf w ss n who ties a b c k).2 then (k, (zHf (zFp w (z_u ss c k) n who ties a b c) 441).2) else zSf w ss n who ties a b c k := by
  have hs := zSf_in (ss := ss) (n := n) (who := who) (ties := ties) (a := a) (b := b) (c := c) hW k
  have hf : ∀ q, 0 ≤ zFp w (z_u ss c k) n who ties a b c q := fun q => (zBu_in (w := w) hW).1
  have hc := zHp_cmp (f := zFp w (z_u ss c k) n who ties a b c) (en := (zSf w ss n who ties a b c k).2) hf hs.2.1
  have e : zSf w ss n who ties a b c (k + 1) = if zFp w (z_u ss c k) n who ties a b c (zHp (zFp w (z_u ss c k) n who ties a b c) (zSf w ss n who ties a b c k).2 441 0 0 (-1)).1 < (zSf w ss n who ties a b c k).2 then (k, zFp w (z_u ss c k) n who ties a b c (zHp (zFp w (z_u ss c k) n who ties a b c) (zSf w ss n who ties a b c k).2 441 0 0 (-1)).1) else zSf w ss n who ties a b c k := rfl
  rw [e]
  by_cases q : (zHf (zFp w (z_u ss c k) n who ties a b c) 441).2 < (zSf w ss n who ties a b c k).2
  · rw [if_pos (hc.1.mpr q), if_pos q, hc.2 q]
  · rw [if_neg (fun z => q (hc.1.mp z)), if_neg q]
noncomputable def zSr (w ss : Int → Int) (n : Nat) (who ties : Int) (a b c : Nat) (k : Nat) : Nat × Int := if k = 0 then (0, -1) else zSf w ss n who ties a b c k
theorem zSr_step {w ss : Int → Int} {n : Nat} {who ties : Int} {a b c : Nat} (hW : zOkW w) (k : Nat) : zSr w ss n who ties a b c (k + 1) = if (zSr w ss n who ties a b c k).2 < 0 ∨ (zHf (zFp w (z_u ss c k) n who ties a b c) 441).2 < (zSr w ss n who ties a b c k).2 then (k, (zHf (zFp w (z_u ss c k) n who ties a b c) 441).2) else zSr w ss n who ties a b c k := by
  have hs := zSf_in (ss := ss) (n := n) (who := who) (ties := ties) (a := a) (b := b) (c := c) hW k
  have e1 : zSr w ss n who ties a b c (k + 1) = zSf w ss n who ties a b c (k + 1) := by unfold zSr; rw [if_neg (Nat.succ_ne_zero k)]
  rw [e1, zSf_step hW]
  by_cases h0 : k = 0
  · subst h0
    have e2 : zSr w ss n who ties a b c 0 = (0, -1) := by unfold zSr; rw [if_pos rfl]
    have e3 : (zSf w ss n who ties a b c 0).2 = 2520 * zWeiN w 21 + 1 := rfl
    have h5 := (zHf_in (f := zFp w (z_u ss c (0 : Nat)) n who ties a b c) (M := 2520 * zWeiN w 21) (by have := zWei21 hW; omega) (fun q => zBu_in (w := w) hW) 441).2.2
    rw [e2, e3, if_pos (by omega), if_pos (Or.inl (by decide))]
  · have e2 : zSr w ss n who ties a b c k = zSf w ss n who ties a b c k := by unfold zSr; rw [if_neg h0]
    rw [e2]
    by_cases q : (zHf (zFp w (z_u ss c k) n who ties a b c) 441).2 < (zSf w ss n who ties a b c k).2
    · rw [if_pos q, if_pos (Or.inr q)]
    · rw [if_neg q, if_neg (by omega)]
section M14
variable {w ks ss : Int → Int} {n : Nat} {la su nm np ns : Int → Int} {sz : Nat} {tp : Int → Int} {tn pl : Nat} {rs : Int} {rd : Int → Int} {lp ik : Int} {kp : Int → Int} {km kn : Int} {ln rz it : Int → Int}
theorem c_Mo_leagueOf {a b c : Nat} (ha : a < n) (hb : b < n) (hc : c < n) (hab : a ≠ b) (hL : zOkL n (la 0) (la 1)) (hS : zOkS ss n) (hW : zOkW w) :
    zMet m_Mo_leagueOf [.inr (.inr 0), .inl (a : Int), .inl (b : Int), .inl (c : Int)] (wMo w ks ss n la su nm np ns sz tp tn pl rs rd lp ik kp km kn ln rz it) (fun v wd => v = some (.inl ((zHf (zFp w ss n (la 0) (la 1) a b c) 441).1 : Int)) ∧ wd = wMo w ks ss n la su nm np ns sz tp tn pl rs rd (zHf (zFp w ss n (la 0) (la 1) a b c) 441).2 ik kp km kn ln rz it) := by
  have hn := hL.1
  have hwb := zWei21 hW
  have hf : ∀ p, 0 ≤ zFp w ss n (la 0) (la 1) a b c p ∧ zFp w ss n (la 0) (la 1) a b c p ≤ 2520 * zWeiN w 21 := fun p => zBu_in hW
  refine zMet.of (own := RX7) rfl (by decide +kernel) tk_Mo_leagueOf fok_Mo cok_Mo (Nat.le_of_ble_eq_true rfl) (fun G hG => ?_)
  refine hG.1 [27] 80 _ _ _ _ ?_
  refine ⟨by omega, by omega, ?_⟩
  suffices L : ∀ i, i ≤ 441 → ∀ s' : Int → Int, (∀ x y : Int, z_u (z_u s' a x) b y = z_u (z_u ss a x) b y) → G 27 [(0, .inr (.inr 0)), (1, .inl (a : Int)), (2, .inl (b : Int)), (3, .inl (c : Int)), (4, .inl (ss a)), (5, .inl (ss b)), (6, .inl ((zHf (zFp w ss n (la 0) (la 1) a b c) i).1 : Int)), (7, .inl (i : Int))] [] (wMo w ks (s') n la su nm np ns sz tp tn pl rs rd (zHf (zFp w ss n (la 0) (la 1) a b c) i).2 ik kp km kn ln rz it) from L 0 (by omega) ss (fun _ _ => rfl)
  refine z_up (fun s' hs' => ?_) (fun i hi ih s' hs' => ?_)
  · refine hG.1 [] 80 _ _ _ _ ?_
    refine ⟨by omega, fun h1 => ?_, fun h1 => absurd h1 (by omega)⟩
    refine ⟨by omega, by omega, trivial, rfl, ?_⟩
    show wMo w ks (z_u (z_u s' a (ss a)) b (ss b)) n la su nm np ns sz tp tn pl rs rd (zHf (zFp w ss n (la 0) (la 1) a b c) 441).2 ik kp km kn ln rz it = _
    rw [zPairBack hs']
  · have e : zHf (zFp w ss n (la 0) (la 1) a b c) (i + 1) = if (zHf (zFp w ss n (la 0) (la 1) a b c) i).2 < zFp w ss n (la 0) (la 1) a b c i then (i, zFp w ss n (la 0) (la 1) a b c i) else zHf (zFp w ss n (la 0) (la 1) a b c) i := rfl
    have hfi := hf i
    have hhi := zHf_in (show 0 ≤ 2520 * zWeiN w 21 by omega) hf i
    have hs2 : ∀ x y : Int, z_u (z_u (z_u (z_u ss a ((i / 21 : Nat) : Int)) b ((i % 21 : Nat) : Int)) a x) b y = z_u (z_u ss a x) b y := fun x y => by
      rw [z_u_comm _ (show ((b : Nat) : Int) ≠ a by omega), z_u_u, z_u_u]
    have ih := ih _ hs2
    rw [e] at ih
    refine hG.1 [27] 80 _ _ _ _ ?_
    refine ⟨by omega, fun h1 => absurd h1 (by omega), fun h1 => ?_⟩
    refine ⟨by omega, by omega, by omega, by omega, ?_⟩
    change G 59 [(0, .inr (.inr 0)), (1, .inl (a : Int)), (2, .inl (b : Int)), (3, .inl (c : Int)), (4, .inl (ss a)), (5, .inl (ss b)), (6, .inl ((zHf (zFp w ss n (la 0) (la 1) a b c) i).1 : Int)), (7, .inl (i : Int))] [.inl (c : Int), .inr (.inr 0)] (wMo w ks (z_u (z_u s' a ((i / 21 : Nat) : Int)) b ((i % 21 : Nat) : Int)) n la su nm np ns sz tp tn pl rs rd (zHf (zFp w ss n (la 0) (la 1) a b c) i).2 ik kp km kn ln rz it)
    rw [hs']
    refine hG.2.1 (c_Mo_meanParts (ss := z_u (z_u ss a ((i / 21 : Nat) : Int)) b ((i % 21 : Nat) : Int)) (g := c) hc hL (zOkS_p hi hS) hW) yv_Mo_meanParts lk_Mo_173 (by decide +kernel) rfl rfl [0, 1, 2, 3, 4, 5, 6, 7, 8, 9, 10, 11, 12, 13, 14] (by decide +kernel) rfl rfl rfl (Nat.le_of_ble_eq_true rfl) (fun v w2 hv hl2 => ?_)
    obtain ⟨rfl, rfl⟩ := hv
    change G _ _ _ (wMo w ks (z_u (z_u ss a ((i / 21 : Nat) : Int)) b ((i % 21 : Nat) : Int)) n la su nm np ns sz tp tn pl rs rd (zHf (zFp w ss n (la 0) (la 1) a b c) i).2 ik kp km kn ln rz it)
    have back : zBu w (z_u (z_u ss a ((i / 21 : Nat) : Int)) b ((i % 21 : Nat) : Int)) n (la 0) (la 1) c = zFp w ss n (la 0) (la 1) a b c i := rfl
    rw [back]
    refine hG.1 [27] 80 _ _ _ _ ?_
    refine ⟨by omega, fun h3 => ?_, fun h3 => ?_⟩
    · rw [if_neg (by omega)] at ih
      refine ⟨by omega, fun h4 => ?_, fun h4 => absurd h4 (by omega)⟩
      exact hG.2.2.2.2.1 (fun q hq => List.mem_append_left _ hq) ih
    · rw [if_pos h3] at ih
      refine ⟨by omega, fun h4 => absurd h4 (by omega), fun h4 => ?_⟩
      exact hG.2.2.2.2.1 (fun q hq => List.mem_append_left _ hq) ih
theorem c_Mo_league {a b c x : Int} (ha : -2147483648 ≤ a ∧ a ≤ 2147483647) (hb : -2147483648 ≤ b ∧ b ≤ 2147483647) (hc : -2147483648 ≤ c ∧ c ≤ 2147483647) (hx : -2147483648 ≤ x ∧ x ≤ 2147483647) (hL : zOkL n (la 0) (la 1)) (hS : zOkS ss n) (hW : zOkW w) :
    zMet m_Mo_league [.inr (.inr 0), .inl a, .inl b, .inl c, .inl x] (wMo w ks ss n la su nm np ns sz tp tn pl rs rd lp ik kp km kn ln rz it) (fun v wd => v = some (.inl (if z3 n a b c ∧ (0 ≤ x ∧ x ≤ 1) then (if zSumN w 21 = 0 then -2 else if x = 0 then (zPr w ss n (la 0) (la 1) a.toNat b.toNat c.toNat : Int) / 21 else (zPr w ss n (la 0) (la 1) a.toNat b.toNat c.toNat : Int) % 21) else -1)) ∧ ∃ l2 : Int, wd = wMo w ks ss n la su nm np ns sz tp tn pl rs rd (l2) ik kp km kn ln rz it) := by
  have hn := hL.1
  have hsum := zSumN_in hW
  refine zMet.of (own := RX7) rfl (by decide +kernel) tk_Mo_league fok_Mo cok_Mo (Nat.le_of_ble_eq_true rfl) (fun G hG => ?_)
  refine hG.1 [] 80 _ _ _ _ ?_
  refine hG.2.1 (c_Mo_areThree (a := a) (b := b) (c := c) ha hb hc hn) yv_Mo_areThree lk_Mo_190 (by decide +kernel) rfl rfl [0, 1, 2, 3, 4, 5, 6, 7, 8, 9, 10, 11, 12, 13, 14] (by decide +kernel) rfl rfl rfl (Nat.le_of_ble_eq_true rfl) (fun v w2 hv hl2 => ?_)
  obtain ⟨⟨h3, rfl⟩ | ⟨h3, rfl⟩, rfl⟩ := hv
  · change G _ _ _ (wMo w ks ss n la su nm np ns sz tp tn pl rs rd lp ik kp km kn ln rz it)
    refine hG.1 [] 80 _ _ _ _ ?_
    refine ⟨by omega, fun q => absurd q (by omega), fun q => ?_⟩
    refine ⟨by omega, ?_⟩
    refine hG.2.2.1 (c_Mo_in (a := x) (b := 0) (c := 1) (by omega) (by omega) (by omega)) ys_Mo_in (Or.inl lk_Mo_55) (by decide +kernel) rfl [] (by decide +kernel) rfl rfl rfl (Nat.le_of_ble_eq_true rfl) (fun v w2 hv hl2 => ?_)
    obtain ⟨⟨h4, rfl⟩ | ⟨h4, rfl⟩, rfl⟩ := hv
    · change G _ _ _ (wMo w ks ss n la su nm np ns sz tp tn pl rs rd lp ik kp km kn ln rz it)
      refine hG.1 [] 80 _ _ _ _ ?_
      refine ⟨by omega, fun q => ?_, fun q => absurd q (by omega)⟩
      refine hG.2.1 (c_Mo_allWeights ) yv_Mo_allWeights lk_Mo_79 (by decide +kernel) rfl rfl [0, 1, 2, 3, 4, 5, 6, 7, 8, 9, 10, 11, 12, 13, 14] (by decide +kernel) rfl rfl rfl (Nat.le_of_ble_eq_true rfl) (fun v w2 hv hl2 => ?_)
      obtain ⟨rfl, rfl⟩ := hv
      change G _ _ _ (wMo w ks ss n la su nm np ns sz tp tn pl rs rd lp ik kp km kn ln rz it)
      refine hG.1 [] 80 _ _ _ _ ?_
      refine ⟨by omega, fun h5 => ?_, fun h5 => ?_⟩
      · obtain ⟨ka, rfl⟩ := z_nat h3.1.1
        obtain ⟨kb, rfl⟩ := z_nat h3.2.1.1
        obtain ⟨kc, rfl⟩ := z_nat h3.2.2.1.1
        have hab : ka ≠ kb := fun z => h3.2.2.2.1 (by rw [z])
        have hla := h3.1.2
        have hlb := h3.2.1.2
        have hlc := h3.2.2.1.2
        have hwb := zWei21 hW
        have hf : ∀ p, 0 ≤ zFp w ss n (la 0) (la 1) ka kb kc p ∧ zFp w ss n (la 0) (la 1) ka kb kc p ≤ 2520 * zWeiN w 21 := fun p => zBu_in hW
        have hpr : zPr w ss n (la 0) (la 1) ka kb kc = (zHf (zFp w ss n (la 0) (la 1) ka kb kc) 441).1 := by
          unfold zPr
          rw [zHp_full (fun q => (hf q).2)]
        have hh := (zHf_in (show 0 ≤ 2520 * zWeiN w 21 by omega) hf 441).1
        refine hG.2.1 (c_Mo_leagueOf (a := ka) (b := kb) (c := kc) (by omega) (by omega) (by omega) hab hL hS hW) yv_Mo_leagueOf lk_Mo_194 (by decide +kernel) rfl rfl [0, 1, 2, 3, 4, 5, 6, 7, 8, 9, 10, 11, 12, 13, 14] (by decide +kernel) rfl rfl rfl (Nat.le_of_ble_eq_true rfl) (fun v w2 hv hl2 => ?_)
        obtain ⟨rfl, rfl⟩ := hv
        change G _ _ _ (wMo w ks ss n la su nm np ns sz tp tn pl rs rd (zHf (zFp w ss n (la 0) (la 1) ka kb kc) 441).2 ik kp km kn ln rz it)
        rw [← hpr] at hh ⊢
        refine hG.1 [] 80 _ _ _ _ ?_
        refine ⟨by omega, fun h6 => ?_, fun h6 => ?_⟩
        · refine ⟨by omega, trivial, ?_, _, rfl⟩
          rw [if_pos ⟨h3, h4⟩, if_neg h5, if_neg h6, Int.toNat_natCast, Int.toNat_natCast, Int.toNat_natCast]
        · refine ⟨by omega, trivial, ?_, _, rfl⟩
          rw [if_pos ⟨h3, h4⟩, if_neg h5, if_pos h6, Int.toNat_natCast, Int.toNat_natCast, Int.toNat_natCast]
      · exact ⟨trivial, by rw [if_pos ⟨h3, h4⟩, if_pos h5], _, rfl⟩
    · change G _ _ _ (wMo w ks ss n la su nm np ns sz tp tn pl rs rd lp ik kp km kn ln rz it)
      refine hG.1 [] 80 _ _ _ _ ?_
      refine ⟨by omega, fun q => absurd rfl q, fun q => ?_⟩
      exact ⟨trivial, by rw [if_neg (fun z => h4 z.2)], _, rfl⟩
  · change G _ _ _ (wMo w ks ss n la su nm np ns sz tp tn pl rs rd lp ik kp km kn ln rz it)
    refine hG.1 [] 80 _ _ _ _ ?_
    refine ⟨by omega, fun q => ?_, fun q => absurd rfl q⟩
    exact ⟨trivial, by rw [if_neg (fun z => h3 z.1)], _, rfl⟩
theorem c_Mo_shun {a b c : Int} (ha : -2147483648 ≤ a ∧ a ≤ 2147483647) (hb : -2147483648 ≤ b ∧ b ≤ 2147483647) (hc : -2147483648 ≤ c ∧ c ≤ 2147483647) (hL : zOkL n (la 0) (la 1)) (hS : zOkS ss n) (hW : zOkW w) :
    zMet m_Mo_shun [.inr (.inr 0), .inl a, .inl b, .inl c] (wMo w ks ss n la su nm np ns sz tp tn pl rs rd lp ik kp km kn ln rz it) (fun v wd => v = some (.inl (if z3 n a b c then (if zSumN w 21 = 0 then -2 else ((zSf w ss n (la 0) (la 1) a.toNat b.toNat c.toNat 21).1 : Int)) else -1)) ∧ ∃ l2 : Int, wd = wMo w ks ss n la su nm np ns sz tp tn pl rs rd (l2) ik kp km kn ln rz it) := by
  have hn := hL.1
  have hsum := zSumN_in hW
  refine zMet.of (own := RX7) rfl (by decide +kernel) tk_Mo_shun fok_Mo cok_Mo (Nat.le_of_ble_eq_true rfl) (fun G hG => ?_)
  refine hG.1 [] 80 _ _ _ _ ?_
  refine hG.2.1 (c_Mo_areThree (a := a) (b := b) (c := c) ha hb hc hn) yv_Mo_areThree lk_Mo_190 (by decide +kernel) rfl rfl [0, 1, 2, 3, 4, 5, 6, 7, 8, 9, 10, 11, 12, 13, 14] (by decide +kernel) rfl rfl rfl (Nat.le_of_ble_eq_true rfl) (fun v w2 hv hl2 => ?_)
  obtain ⟨⟨h3, rfl⟩ | ⟨h3, rfl⟩, rfl⟩ := hv
  · change G _ _ _ (wMo w ks ss n la su nm np ns sz tp tn pl rs rd lp ik kp km kn ln rz it)
    refine hG.1 [] 80 _ _ _ _ ?_
    refine ⟨by omega, fun q => ?_, fun q => absurd q (by omega)⟩
    refine hG.2.1 (c_Mo_allWeights ) yv_Mo_allWeights lk_Mo_79 (by decide +kernel) rfl rfl [0, 1, 2, 3, 4, 5, 6, 7, 8, 9, 10, 11, 12, 13, 14] (by decide +kernel) rfl rfl rfl (Nat.le_of_ble_eq_true rfl) (fun v w2 hv hl2 => ?_)
    obtain ⟨rfl, rfl⟩ := hv
    change G _ _ _ (wMo w ks ss n la su nm np ns sz tp tn pl rs rd lp ik kp km kn ln rz it)
    obtain ⟨ka, rfl⟩ := z_nat h3.1.1
    obtain ⟨kb, rfl⟩ := z_nat h3.2.1.1
    obtain ⟨kc, rfl⟩ := z_nat h3.2.2.1.1
    have hab : ka ≠ kb := fun z => h3.2.2.2.1 (by rw [z])
    have hla := h3.1.2
    have hlb := h3.2.1.2
    have hlc := h3.2.2.1.2
    have hwb := zWei21 hW
    refine hG.1 [39] 80 _ _ _ _ ?_
    refine ⟨by omega, fun h5 => ?_, fun h5 => ?_⟩
    · refine ⟨by omega, ?_⟩
      have hsr : ∀ i, (zSr w ss n (la 0) (la 1) ka kb kc i).1 ≤ i ∧ -1 ≤ (zSr w ss n (la 0) (la 1) ka kb kc i).2 ∧ (zSr w ss n (la 0) (la 1) ka kb kc i).2 ≤ 2520 * zWeiN w 21 + 1 := fun i => by
        have := zSf_in (ss := ss) (n := n) (who := la 0) (ties := la 1) (a := ka) (b := kb) (c := kc) hW i
        unfold zSr
        split
        · dsimp only; omega
        · omega
      suffices L : ∀ i, i ≤ 21 → ∀ (s' : Int → Int) (l2 : Int), (∀ x : Int, z_u s' kc x = z_u ss kc x) → G 39 [(0, .inr (.inr 0)), (1, .inl (ka : Int)), (2, .inl (kb : Int)), (3, .inl (kc : Int)), (4, .inl (ss kc)), (5, .inl ((zSr w ss n (la 0) (la 1) ka kb kc i).1 : Int)), (6, .inl (zSr w ss n (la 0) (la 1) ka kb kc i).2), (7, .inl (i : Int))] [] (wMo w ks (s') n la su nm np ns sz tp tn pl rs rd (l2) ik kp km kn ln rz it) from L 0 (by omega) ss lp (fun _ => rfl)
      refine z_up (fun s' l2 hs' => ?_) (fun i hi ih s' l2 hs' => ?_)
      · have e21 : zSr w ss n (la 0) (la 1) ka kb kc 21 = zSf w ss n (la 0) (la 1) ka kb kc 21 := by unfold zSr; rw [if_neg (by omega)]
        rw [e21]
        refine hG.1 [] 80 _ _ _ _ ?_
        refine ⟨by omega, fun h6 => ?_, fun h6 => absurd h6 (by omega)⟩
        refine ⟨by omega, trivial, by rw [if_pos h3, if_neg h5, Int.toNat_natCast, Int.toNat_natCast, Int.toNat_natCast], l2, ?_⟩
        show wMo w ks (z_u s' kc (ss kc)) n la su nm np ns sz tp tn pl rs rd (l2) ik kp km kn ln rz it = _
        rw [hs', z_u_self]
      · have e := zSr_step (w := w) (ss := ss) (n := n) (who := la 0) (ties := la 1) (a := ka) (b := kb) (c := kc) hW i
        have hsi := hsr i
        have hfi := (zHf_in (f := zFp w (z_u ss kc i) n (la 0) (la 1) ka kb kc) (M := 2520 * zWeiN w 21) (by omega) (fun q => zBu_in (w := w) hW) 441).2
        generalize hMi : (zHf (zFp w (z_u ss kc i) n (la 0) (la 1) ka kb kc) 441).2 = mi at e hfi
        have ih := ih (z_u ss kc i) mi (fun x => z_u_u ss kc i x)
        rw [e] at ih
        refine hG.1 [39] 80 _ _ _ _ ?_
        refine ⟨by omega, fun h6 => absurd h6 (by omega), fun h6 => ?_⟩
        refine ⟨by omega, ?_⟩
        change G 58 [(0, .inr (.inr 0)), (1, .inl (ka : Int)), (2, .inl (kb : Int)), (3, .inl (kc : Int)), (4, .inl (ss kc)), (5, .inl ((zSr w ss n (la 0) (la 1) ka kb kc i).1 : Int)), (6, .inl (zSr w ss n (la 0) (la 1) ka kb kc i).2), (7, .inl (i : Int))] [.inl (kc : Int), .inl (kb : Int), .inl (ka : Int), .inr (.inr 0)] (wMo w ks (z_u s' kc i) n la su nm np ns sz tp tn pl rs rd (l2) ik kp km kn ln rz it)
        rw [hs']
        refine hG.2.1 (c_Mo_leagueOf (ss := z_u ss kc i) (lp := l2) (a := ka) (b := kb) (c := kc) (by omega) (by omega) (by omega) hab hL (zOkS_u hS (by omega)) hW) yv_Mo_leagueOf lk_Mo_194 (by decide +kernel) rfl rfl [0, 1, 2, 3, 4, 5, 6, 7, 8, 9, 10, 11, 12, 13, 14] (by decide +kernel) rfl rfl rfl (Nat.le_of_ble_eq_true rfl) (fun v w2 hv hl2 => ?_)
        obtain ⟨rfl, rfl⟩ := hv
        change G _ _ _ (wMo w ks (z_u ss kc i) n la su nm np ns sz tp tn pl rs rd (zHf (zFp w (z_u ss kc i) n (la 0) (la 1) ka kb kc) 441).2 ik kp km kn ln rz it)
        rw [hMi]
        refine hG.1 [39] 80 _ _ _ _ ?_
        refine ⟨by omega, fun h7 => ?_, fun h7 => ?_⟩
        · rw [if_pos (Or.inl h7)] at ih
          refine ⟨by omega, fun h8 => ?_, fun h8 => absurd h8 (by omega)⟩
          exact ih
        · refine ⟨by omega, fun h8 => ?_, fun h8 => ?_⟩
          · rw [if_neg (by omega)] at ih
            refine ⟨by omega, fun h9 => absurd h9 (by omega), fun h9 => ?_⟩
            refine ⟨by omega, fun h9 => ?_, fun h9 => absurd h9 (by omega)⟩
            exact ih
          · rw [if_pos (Or.inr h8)] at ih
            refine ⟨by omega, fun h9 => absurd h9 (by omega), fun h9 => ?_⟩
            refine ⟨by omega, fun h9 => absurd h9 (by omega), fun h9 => ?_⟩
            exact ih
    · exact ⟨trivial, by rw [if_pos h3, if_pos h5], _, rfl⟩
  · change G _ _ _ (wMo w ks ss n la su nm np ns sz tp tn pl rs rd lp ik kp km kn ln rz it)
    refine hG.1 [] 80 _ _ _ _ ?_
    refine ⟨by omega, fun q => absurd rfl q, fun q => ?_⟩
    exact ⟨trivial, by rw [if_neg h3], _, rfl⟩
end M14
end
