section
-- ===== PART A: goes FIRST, ahead of the names: the tables' words, and 'selects' of the private methods out of them =====
/-- a private method of a class that the tables say can be made, by its rows of tables_1 -/
def lw_okq (q : MethodName × Nat) : Prop := (q.1.cls ≠ "java/lang/invoke/MethodHandle" ∧ q.1.cls ≠ "java/lang/invoke/VarHandle") ∧ Cond.instantiable q.1.cls q.2 ∈ tables_1 ∧ Cond.privateMethod q.1 ∈ tables_1 ∧ Cond.instanceMethod q.1 ∈ tables_1
theorem lw_p0 : lw_okq (⟨"FarthestPays$Company", "slipAlone", "(III)I"⟩, 5) := ⟨⟨by decide +kernel, by decide +kernel⟩, List.mem_of_getElem? (i := 38) (by decide +kernel), List.mem_of_getElem? (i := 229) (by decide +kernel), List.mem_of_getElem? (i := 230) (by decide +kernel)⟩
theorem lw_p1 : lw_okq (⟨"FarthestPays$Tape", "begin", "()V"⟩, 4) := ⟨⟨by decide +kernel, by decide +kernel⟩, List.mem_of_getElem? (i := 92) (by decide +kernel), List.mem_of_getElem? (i := 281) (by decide +kernel), List.mem_of_getElem? (i := 282) (by decide +kernel)⟩
theorem lw_p2 : lw_okq (⟨"FarthestPays$Tape", "readDish", "(LFarthestPays$Supper;)V"⟩, 4) := ⟨⟨by decide +kernel, by decide +kernel⟩, List.mem_of_getElem? (i := 92) (by decide +kernel), List.mem_of_getElem? (i := 285) (by decide +kernel), List.mem_of_getElem? (i := 286) (by decide +kernel)⟩
theorem lw_p3 : lw_okq (⟨"FarthestPays$Tape", "skipBlanks", "()V"⟩, 4) := ⟨⟨by decide +kernel, by decide +kernel⟩, List.mem_of_getElem? (i := 92) (by decide +kernel), List.mem_of_getElem? (i := 289) (by decide +kernel), List.mem_of_getElem? (i := 290) (by decide +kernel)⟩
theorem lw_p4 : lw_okq (⟨"FarthestPays$Tape", "readNumber", "(II)I"⟩, 4) := ⟨⟨by decide +kernel, by decide +kernel⟩, List.mem_of_getElem? (i := 92) (by decide +kernel), List.mem_of_getElem? (i := 293) (by decide +kernel), List.mem_of_getElem? (i := 294) (by decide +kernel)⟩
theorem lw_p5 : lw_okq (⟨"FarthestPays$Tape", "faultAt", "(I)V"⟩, 4) := ⟨⟨by decide +kernel, by decide +kernel⟩, List.mem_of_getElem? (i := 92) (by decide +kernel), List.mem_of_getElem? (i := 303) (by decide +kernel), List.mem_of_getElem? (i := 304) (by decide +kernel)⟩
theorem lw_p6 : lw_okq (⟨"FarthestPays$Tape", "readSign", "(I)V"⟩, 4) := ⟨⟨by decide +kernel, by decide +kernel⟩, List.mem_of_getElem? (i := 92) (by decide +kernel), List.mem_of_getElem? (i := 308) (by decide +kernel), List.mem_of_getElem? (i := 309) (by decide +kernel)⟩
theorem lw_p7 : lw_okq (⟨"FarthestPays$Tape", "next", "()I"⟩, 4) := ⟨⟨by decide +kernel, by decide +kernel⟩, List.mem_of_getElem? (i := 92) (by decide +kernel), List.mem_of_getElem? (i := 312) (by decide +kernel), List.mem_of_getElem? (i := 313) (by decide +kernel)⟩
theorem lw_p8 : lw_okq (⟨"FarthestPays$Tape", "goesOn", "(IZ)Z"⟩, 4) := ⟨⟨by decide +kernel, by decide +kernel⟩, List.mem_of_getElem? (i := 92) (by decide +kernel), List.mem_of_getElem? (i := 317) (by decide +kernel), List.mem_of_getElem? (i := 318) (by decide +kernel)⟩
theorem lw_p9 : lw_okq (⟨"FarthestPays$Tape", "readGuest", "(LFarthestPays$Company;)V"⟩, 4) := ⟨⟨by decide +kernel, by decide +kernel⟩, List.mem_of_getElem? (i := 92) (by decide +kernel), List.mem_of_getElem? (i := 340) (by decide +kernel), List.mem_of_getElem? (i := 341) (by decide +kernel)⟩
theorem lw_p10 : lw_okq (⟨"FarthestPays$Tape", "readKind", "()I"⟩, 4) := ⟨⟨by decide +kernel, by decide +kernel⟩, List.mem_of_getElem? (i := 92) (by decide +kernel), List.mem_of_getElem? (i := 344) (by decide +kernel), List.mem_of_getElem? (i := 345) (by decide +kernel)⟩
theorem lw_p11 : lw_okq (⟨"FarthestPays$Company", "placeOf", "(I)I"⟩, 5) := ⟨⟨by decide +kernel, by decide +kernel⟩, List.mem_of_getElem? (i := 38) (by decide +kernel), List.mem_of_getElem? (i := 385) (by decide +kernel), List.mem_of_getElem? (i := 386) (by decide +kernel)⟩
theorem lw_p12 : lw_okq (⟨"FarthestPays$Company", "shareOfTwo", "(II)I"⟩, 5) := ⟨⟨by decide +kernel, by decide +kernel⟩, List.mem_of_getElem? (i := 38) (by decide +kernel), List.mem_of_getElem? (i := 393) (by decide +kernel), List.mem_of_getElem? (i := 394) (by decide +kernel)⟩
theorem lw_p13 : lw_okq (⟨"FarthestPays$Company", "shareOfMost", "(III)I"⟩, 5) := ⟨⟨by decide +kernel, by decide +kernel⟩, List.mem_of_getElem? (i := 38) (by decide +kernel), List.mem_of_getElem? (i := 400) (by decide +kernel), List.mem_of_getElem? (i := 401) (by decide +kernel)⟩
theorem lw_p14 : lw_okq (⟨"FarthestPays$Table", "betterSlip", "(I)I"⟩, 3) := ⟨⟨by decide +kernel, by decide +kernel⟩, List.mem_of_getElem? (i := 21) (by decide +kernel), List.mem_of_getElem? (i := 458) (by decide +kernel), List.mem_of_getElem? (i := 459) (by decide +kernel)⟩
theorem lw_p15 : lw_okq (⟨"FarthestPays", "areThree", "(III)Z"⟩, 7) := ⟨⟨by decide +kernel, by decide +kernel⟩, List.mem_of_getElem? (i := 13) (by decide +kernel), List.mem_of_getElem? (i := 480) (by decide +kernel), List.mem_of_getElem? (i := 481) (by decide +kernel)⟩
def lw_privs_1 : List (MethodName × Nat) := [(⟨"FarthestPays$Company", "slipAlone", "(III)I"⟩, 5), (⟨"FarthestPays$Tape", "begin", "()V"⟩, 4), (⟨"FarthestPays$Tape", "readDish", "(LFarthestPays$Supper;)V"⟩, 4), (⟨"FarthestPays$Tape", "skipBlanks", "()V"⟩, 4), (⟨"FarthestPays$Tape", "readNumber", "(II)I"⟩, 4), (⟨"FarthestPays$Tape", "faultAt", "(I)V"⟩, 4), (⟨"FarthestPays$Tape", "readSign", "(I)V"⟩, 4), (⟨"FarthestPays$Tape", "next", "()I"⟩, 4), (⟨"FarthestPays$Tape", "goesOn", "(IZ)Z"⟩, 4), (⟨"FarthestPays$Tape", "readGuest", "(LFarthestPays$Company;)V"⟩, 4), (⟨"FarthestPays$Tape", "readKind", "()I"⟩, 4), (⟨"FarthestPays$Company", "placeOf", "(I)I"⟩, 5), (⟨"FarthestPays$Company", "shareOfTwo", "(II)I"⟩, 5), (⟨"FarthestPays$Company", "shareOfMost", "(III)I"⟩, 5), (⟨"FarthestPays$Table", "betterSlip", "(I)I"⟩, 3), (⟨"FarthestPays", "areThree", "(III)Z"⟩, 7)]
theorem lw_r1 : ∀ q ∈ lw_privs_1, lw_okq q := List.forall_mem_cons.mpr ⟨lw_p0, List.forall_mem_cons.mpr ⟨lw_p1, List.forall_mem_cons.mpr ⟨lw_p2, List.forall_mem_cons.mpr ⟨lw_p3, List.forall_mem_cons.mpr ⟨lw_p4, List.forall_mem_cons.mpr ⟨lw_p5, List.forall_mem_cons.mpr ⟨lw_p6, List.forall_mem_cons.mpr ⟨lw_p7, List.forall_mem_cons.mpr ⟨lw_p8, List.forall_mem_cons.mpr ⟨lw_p9, List.forall_mem_cons.mpr ⟨lw_p10, List.forall_mem_cons.mpr ⟨lw_p11, List.forall_mem_cons.mpr ⟨lw_p12, List.forall_mem_cons.mpr ⟨lw_p13, List.forall_mem_cons.mpr ⟨lw_p14, List.forall_mem_cons.mpr ⟨lw_p15, fun _ h => absurd h List.not_mem_nil⟩⟩⟩⟩⟩⟩⟩⟩⟩⟩⟩⟩⟩⟩⟩⟩
theorem lw_p16 : lw_okq (⟨"FarthestPays$Table", "putPair", "(III)V"⟩, 3) := ⟨⟨by decide +kernel, by decide +kernel⟩, List.mem_of_getElem? (i := 21) (by decide +kernel), List.mem_of_getElem? (i := 490) (by decide +kernel), List.mem_of_getElem? (i := 491) (by decide +kernel)⟩
theorem lw_p17 : lw_okq (⟨"FarthestPays$Table", "burdenByPair", "(IIII)J"⟩, 3) := ⟨⟨by decide +kernel, by decide +kernel⟩, List.mem_of_getElem? (i := 21) (by decide +kernel), List.mem_of_getElem? (i := 503) (by decide +kernel), List.mem_of_getElem? (i := 504) (by decide +kernel)⟩
theorem lw_p18 : lw_okq (⟨"FarthestPays$Nights", "alwaysKnew", "(I)Z"⟩, 3) := ⟨⟨by decide +kernel, by decide +kernel⟩, List.mem_of_getElem? (i := 60) (by decide +kernel), List.mem_of_getElem? (i := 546) (by decide +kernel), List.mem_of_getElem? (i := 547) (by decide +kernel)⟩
theorem lw_p19 : lw_okq (⟨"FarthestPays$Nights", "alwaysPaid", "(I)Z"⟩, 3) := ⟨⟨by decide +kernel, by decide +kernel⟩, List.mem_of_getElem? (i := 60) (by decide +kernel), List.mem_of_getElem? (i := 560) (by decide +kernel), List.mem_of_getElem? (i := 561) (by decide +kernel)⟩
theorem lw_p20 : lw_okq (⟨"FarthestPays$Nights", "alwaysBetween", "(III)Z"⟩, 3) := ⟨⟨by decide +kernel, by decide +kernel⟩, List.mem_of_getElem? (i := 60) (by decide +kernel), List.mem_of_getElem? (i := 566) (by decide +kernel), List.mem_of_getElem? (i := 567) (by decide +kernel)⟩
theorem lw_p21 : lw_okq (⟨"FarthestPays$Sheet", "narrowed", "(J)J"⟩, 3) := ⟨⟨by decide +kernel, by decide +kernel⟩, List.mem_of_getElem? (i := 116) (by decide +kernel), List.mem_of_getElem? (i := 659) (by decide +kernel), List.mem_of_getElem? (i := 660) (by decide +kernel)⟩
theorem lw_p22 : lw_okq (⟨"FarthestPaysModel", "add", "(II)V"⟩, 23) := ⟨⟨by decide +kernel, by decide +kernel⟩, List.mem_of_getElem? (i := 667) (by decide +kernel), List.mem_of_getElem? (i := 760) (by decide +kernel), List.mem_of_getElem? (i := 761) (by decide +kernel)⟩
theorem lw_p23 : lw_okq (⟨"FarthestPaysModel", "isGuest", "(I)Z"⟩, 23) := ⟨⟨by decide +kernel, by decide +kernel⟩, List.mem_of_getElem? (i := 667) (by decide +kernel), List.mem_of_getElem? (i := 768) (by decide +kernel), List.mem_of_getElem? (i := 769) (by decide +kernel)⟩
theorem lw_p24 : lw_okq (⟨"FarthestPaysModel", "allWeights", "()I"⟩, 23) := ⟨⟨by decide +kernel, by decide +kernel⟩, List.mem_of_getElem? (i := 667) (by decide +kernel), List.mem_of_getElem? (i := 776) (by decide +kernel), List.mem_of_getElem? (i := 777) (by decide +kernel)⟩
theorem lw_p25 : lw_okq (⟨"FarthestPaysModel", "readSupper", "()Z"⟩, 23) := ⟨⟨by decide +kernel, by decide +kernel⟩, List.mem_of_getElem? (i := 667) (by decide +kernel), List.mem_of_getElem? (i := 805) (by decide +kernel), List.mem_of_getElem? (i := 806) (by decide +kernel)⟩
theorem lw_p26 : lw_okq (⟨"FarthestPaysModel", "readCourse", "()Z"⟩, 23) := ⟨⟨by decide +kernel, by decide +kernel⟩, List.mem_of_getElem? (i := 667) (by decide +kernel), List.mem_of_getElem? (i := 809) (by decide +kernel), List.mem_of_getElem? (i := 810) (by decide +kernel)⟩
theorem lw_p27 : lw_okq (⟨"FarthestPaysModel", "nextByte", "()I"⟩, 23) := ⟨⟨by decide +kernel, by decide +kernel⟩, List.mem_of_getElem? (i := 667) (by decide +kernel), List.mem_of_getElem? (i := 813) (by decide +kernel), List.mem_of_getElem? (i := 814) (by decide +kernel)⟩
theorem lw_p28 : lw_okq (⟨"FarthestPaysModel", "readNumber", "(II)I"⟩, 23) := ⟨⟨by decide +kernel, by decide +kernel⟩, List.mem_of_getElem? (i := 667) (by decide +kernel), List.mem_of_getElem? (i := 817) (by decide +kernel), List.mem_of_getElem? (i := 818) (by decide +kernel)⟩
theorem lw_p29 : lw_okq (⟨"FarthestPaysModel", "readGuests", "()Z"⟩, 23) := ⟨⟨by decide +kernel, by decide +kernel⟩, List.mem_of_getElem? (i := 667) (by decide +kernel), List.mem_of_getElem? (i := 827) (by decide +kernel), List.mem_of_getElem? (i := 828) (by decide +kernel)⟩
theorem lw_p30 : lw_okq (⟨"FarthestPaysModel", "readGuest", "(I)Z"⟩, 23) := ⟨⟨by decide +kernel, by decide +kernel⟩, List.mem_of_getElem? (i := 667) (by decide +kernel), List.mem_of_getElem? (i := 831) (by decide +kernel), List.mem_of_getElem? (i := 832) (by decide +kernel)⟩
theorem lw_p31 : lw_okq (⟨"FarthestPaysModel", "payers", "(I)I"⟩, 23) := ⟨⟨by decide +kernel, by decide +kernel⟩, List.mem_of_getElem? (i := 667) (by decide +kernel), List.mem_of_getElem? (i := 839) (by decide +kernel), List.mem_of_getElem? (i := 840) (by decide +kernel)⟩
def lw_privs_2 : List (MethodName × Nat) := [(⟨"FarthestPays$Table", "putPair", "(III)V"⟩, 3), (⟨"FarthestPays$Table", "burdenByPair", "(IIII)J"⟩, 3), (⟨"FarthestPays$Nights", "alwaysKnew", "(I)Z"⟩, 3), (⟨"FarthestPays$Nights", "alwaysPaid", "(I)Z"⟩, 3), (⟨"FarthestPays$Nights", "alwaysBetween", "(III)Z"⟩, 3), (⟨"FarthestPays$Sheet", "narrowed", "(J)J"⟩, 3), (⟨"FarthestPaysModel", "add", "(II)V"⟩, 23), (⟨"FarthestPaysModel", "isGuest", "(I)Z"⟩, 23), (⟨"FarthestPaysModel", "allWeights", "()I"⟩, 23), (⟨"FarthestPaysModel", "readSupper", "()Z"⟩, 23), (⟨"FarthestPaysModel", "readCourse", "()Z"⟩, 23), (⟨"FarthestPaysModel", "nextByte", "()I"⟩, 23), (⟨"FarthestPaysModel", "readNumber", "(II)I"⟩, 23), (⟨"FarthestPaysModel", "readGuests", "()Z"⟩, 23), (⟨"FarthestPaysModel", "readGuest", "(I)Z"⟩, 23), (⟨"FarthestPaysModel", "payers", "(I)I"⟩, 23)]
theorem lw_r2 : ∀ q ∈ lw_privs_2, lw_okq q := List.forall_mem_cons.mpr ⟨lw_p16, List.forall_mem_cons.mpr ⟨lw_p17, List.forall_mem_cons.mpr ⟨lw_p18, List.forall_mem_cons.mpr ⟨lw_p19, List.forall_mem_cons.mpr ⟨lw_p20, List.forall_mem_cons.mpr ⟨lw_p21, List.forall_mem_cons.mpr ⟨lw_p22, List.forall_mem_cons.mpr ⟨lw_p23, List.forall_mem_cons.mpr ⟨lw_p24, List.forall_mem_cons.mpr ⟨lw_p25, List.forall_mem_cons.mpr ⟨lw_p26, List.forall_mem_cons.mpr ⟨lw_p27, List.forall_mem_cons.mpr ⟨lw_p28, List.forall_mem_cons.mpr ⟨lw_p29, List.forall_mem_cons.mpr ⟨lw_p30, List.forall_mem_cons.mpr ⟨lw_p31, fun _ h => absurd h List.not_mem_nil⟩⟩⟩⟩⟩⟩⟩⟩⟩⟩⟩⟩⟩⟩⟩⟩
theorem lw_p32 : lw_okq (⟨"FarthestPaysModel", "firstOff", "(II)I"⟩, 23) := ⟨⟨by decide +kernel, by decide +kernel⟩, List.mem_of_getElem? (i := 667) (by decide +kernel), List.mem_of_getElem? (i := 843) (by decide +kernel), List.mem_of_getElem? (i := 844) (by decide +kernel)⟩
theorem lw_p33 : lw_okq (⟨"FarthestPaysModel", "off", "(II)I"⟩, 23) := ⟨⟨by decide +kernel, by decide +kernel⟩, List.mem_of_getElem? (i := 667) (by decide +kernel), List.mem_of_getElem? (i := 847) (by decide +kernel), List.mem_of_getElem? (i := 848) (by decide +kernel)⟩
theorem lw_p34 : lw_okq (⟨"FarthestPaysModel", "middle", "()I"⟩, 23) := ⟨⟨by decide +kernel, by decide +kernel⟩, List.mem_of_getElem? (i := 667) (by decide +kernel), List.mem_of_getElem? (i := 854) (by decide +kernel), List.mem_of_getElem? (i := 855) (by decide +kernel)⟩
theorem lw_p35 : lw_okq (⟨"FarthestPaysModel", "farthest", "(IIZ)I"⟩, 23) := ⟨⟨by decide +kernel, by decide +kernel⟩, List.mem_of_getElem? (i := 667) (by decide +kernel), List.mem_of_getElem? (i := 858) (by decide +kernel), List.mem_of_getElem? (i := 859) (by decide +kernel)⟩
theorem lw_p36 : lw_okq (⟨"FarthestPaysModel", "oneOf", "(I)I"⟩, 23) := ⟨⟨by decide +kernel, by decide +kernel⟩, List.mem_of_getElem? (i := 667) (by decide +kernel), List.mem_of_getElem? (i := 862) (by decide +kernel), List.mem_of_getElem? (i := 863) (by decide +kernel)⟩
theorem lw_p37 : lw_okq (⟨"FarthestPaysModel", "partsFor", "(II)I"⟩, 23) := ⟨⟨by decide +kernel, by decide +kernel⟩, List.mem_of_getElem? (i := 667) (by decide +kernel), List.mem_of_getElem? (i := 870) (by decide +kernel), List.mem_of_getElem? (i := 871) (by decide +kernel)⟩
theorem lw_p38 : lw_okq (⟨"FarthestPaysModel", "meanParts", "(I)I"⟩, 23) := ⟨⟨by decide +kernel, by decide +kernel⟩, List.mem_of_getElem? (i := 667) (by decide +kernel), List.mem_of_getElem? (i := 890) (by decide +kernel), List.mem_of_getElem? (i := 891) (by decide +kernel)⟩
theorem lw_p39 : lw_okq (⟨"FarthestPaysModel", "bestOf", "(I)I"⟩, 23) := ⟨⟨by decide +kernel, by decide +kernel⟩, List.mem_of_getElem? (i := 667) (by decide +kernel), List.mem_of_getElem? (i := 898) (by decide +kernel), List.mem_of_getElem? (i := 899) (by decide +kernel)⟩
theorem lw_p40 : lw_okq (⟨"FarthestPaysModel", "meanBy", "(II)I"⟩, 23) := ⟨⟨by decide +kernel, by decide +kernel⟩, List.mem_of_getElem? (i := 667) (by decide +kernel), List.mem_of_getElem? (i := 902) (by decide +kernel), List.mem_of_getElem? (i := 903) (by decide +kernel)⟩
theorem lw_p41 : lw_okq (⟨"FarthestPaysModel", "isStill", "(I)Z"⟩, 23) := ⟨⟨by decide +kernel, by decide +kernel⟩, List.mem_of_getElem? (i := 667) (by decide +kernel), List.mem_of_getElem? (i := 910) (by decide +kernel), List.mem_of_getElem? (i := 911) (by decide +kernel)⟩
theorem lw_p42 : lw_okq (⟨"FarthestPaysModel", "areThree", "(III)Z"⟩, 23) := ⟨⟨by decide +kernel, by decide +kernel⟩, List.mem_of_getElem? (i := 667) (by decide +kernel), List.mem_of_getElem? (i := 923) (by decide +kernel), List.mem_of_getElem? (i := 924) (by decide +kernel)⟩
theorem lw_p43 : lw_okq (⟨"FarthestPaysModel", "leagueOf", "(III)I"⟩, 23) := ⟨⟨by decide +kernel, by decide +kernel⟩, List.mem_of_getElem? (i := 667) (by decide +kernel), List.mem_of_getElem? (i := 927) (by decide +kernel), List.mem_of_getElem? (i := 928) (by decide +kernel)⟩
theorem lw_p44 : lw_okq (⟨"FarthestPaysModel", "wasThere", "(I)Z"⟩, 23) := ⟨⟨by decide +kernel, by decide +kernel⟩, List.mem_of_getElem? (i := 667) (by decide +kernel), List.mem_of_getElem? (i := 955) (by decide +kernel), List.mem_of_getElem? (i := 956) (by decide +kernel)⟩
theorem lw_p45 : lw_okq (⟨"FarthestPaysModel", "areLeague", "(III)Z"⟩, 23) := ⟨⟨by decide +kernel, by decide +kernel⟩, List.mem_of_getElem? (i := 667) (by decide +kernel), List.mem_of_getElem? (i := 963) (by decide +kernel), List.mem_of_getElem? (i := 964) (by decide +kernel)⟩
theorem lw_p46 : lw_okq (⟨"FarthestPaysModel", "carried", "(IIZ)I"⟩, 23) := ⟨⟨by decide +kernel, by decide +kernel⟩, List.mem_of_getElem? (i := 667) (by decide +kernel), List.mem_of_getElem? (i := 975) (by decide +kernel), List.mem_of_getElem? (i := 976) (by decide +kernel)⟩
theorem lw_p47 : lw_okq (⟨"FarthestPaysModel", "lacksRow", "(IIII)I"⟩, 23) := ⟨⟨by decide +kernel, by decide +kernel⟩, List.mem_of_getElem? (i := 667) (by decide +kernel), List.mem_of_getElem? (i := 998) (by decide +kernel), List.mem_of_getElem? (i := 999) (by decide +kernel)⟩
def lw_privs_3 : List (MethodName × Nat) := [(⟨"FarthestPaysModel", "firstOff", "(II)I"⟩, 23), (⟨"FarthestPaysModel", "off", "(II)I"⟩, 23), (⟨"FarthestPaysModel", "middle", "()I"⟩, 23), (⟨"FarthestPaysModel", "farthest", "(IIZ)I"⟩, 23), (⟨"FarthestPaysModel", "oneOf", "(I)I"⟩, 23), (⟨"FarthestPaysModel", "partsFor", "(II)I"⟩, 23), (⟨"FarthestPaysModel", "meanParts", "(I)I"⟩, 23), (⟨"FarthestPaysModel", "bestOf", "(I)I"⟩, 23), (⟨"FarthestPaysModel", "meanBy", "(II)I"⟩, 23), (⟨"FarthestPaysModel", "isStill", "(I)Z"⟩, 23), (⟨"FarthestPaysModel", "areThree", "(III)Z"⟩, 23), (⟨"FarthestPaysModel", "leagueOf", "(III)I"⟩, 23), (⟨"FarthestPaysModel", "wasThere", "(I)Z"⟩, 23), (⟨"FarthestPaysModel", "areLeague", "(III)Z"⟩, 23), (⟨"FarthestPaysModel", "carried", "(IIZ)I"⟩, 23), (⟨"FarthestPaysModel", "lacksRow", "(IIII)I"⟩, 23)]
theorem lw_r3 : ∀ q ∈ lw_privs_3, lw_okq q := List.forall_mem_cons.mpr ⟨lw_p32, List.forall_mem_cons.mpr ⟨lw_p33, List.forall_mem_cons.mpr ⟨lw_p34, List.forall_mem_cons.mpr ⟨lw_p35, List.forall_mem_cons.mpr ⟨lw_p36, List.forall_mem_cons.mpr ⟨lw_p37, List.forall_mem_cons.mpr ⟨lw_p38, List.forall_mem_cons.mpr ⟨lw_p39, List.forall_mem_cons.mpr ⟨lw_p40, List.forall_mem_cons.mpr ⟨lw_p41, List.forall_mem_cons.mpr ⟨lw_p42, List.forall_mem_cons.mpr ⟨lw_p43, List.forall_mem_cons.mpr ⟨lw_p44, List.forall_mem_cons.mpr ⟨lw_p45, List.forall_mem_cons.mpr ⟨lw_p46, List.forall_mem_cons.mpr ⟨lw_p47, fun _ h => absurd h List.not_mem_nil⟩⟩⟩⟩⟩⟩⟩⟩⟩⟩⟩⟩⟩⟩⟩⟩
def lw_privs : List (MethodName × Nat) := lw_privs_1 ++ (lw_privs_2 ++ (lw_privs_3))
def lw_tbl : List Cond := k2_sels lw_privs ++ tables_1
theorem lw_privs_ok : ∀ q ∈ lw_privs, lw_okq q := by
  show ∀ q ∈ lw_privs_1 ++ (lw_privs_2 ++ (lw_privs_3)), lw_okq q
  exact List.forall_mem_append.mpr ⟨lw_r1, List.forall_mem_append.mpr ⟨lw_r2, lw_r3⟩⟩
def RX0 : String := "FarthestPays$Company"
def TX0 : u_T := fun k => match k with
  | 0 => ("FarthestPays$Company", "kinds", "[I", true)
  | 1 => ("FarthestPays$Company", "slips", "[I", true)
  | 2 => ("FarthestPays$Company", "size", "I", false)
  | 3 => ("FarthestPays$Company", "who", "I", false)
  | _ => ("FarthestPays$Company", "ties", "I", false)
def tyX0 : Nat → FieldType := fun k => match k with
  | 0 => .array .int
  | 1 => .array .int
  | 2 => .int
  | 3 => .int
  | _ => .int
abbrev wsX00 : List Cond := u_ws RX0 TX0 5
theorem nmX0 : ∀ a, a < 5 → ∀ b, b < 5 → a ≠ b → (TX0 a).2.1 ≠ (TX0 b).2.1 := by decide +kernel
theorem tyX0_ok : ∀ k, k < 5 → parseFieldDescriptor (TX0 k).2.2.1 = some (tyX0 k) := by decide +kernel
abbrev cX0_init : ByteArray := prog_2_method_1_code
def yX0_init : MethodName := ⟨RX0, "<init>", "()V"⟩
abbrev cX0_size : ByteArray := prog_2_method_2_code
def yX0_size : MethodName := ⟨RX0, "size", "()I"⟩
abbrev cX0_has : ByteArray := prog_2_method_3_code
def yX0_has : MethodName := ⟨RX0, "has", "(I)Z"⟩
abbrev cX0_kindOf : ByteArray := prog_2_method_4_code
def yX0_kindOf : MethodName := ⟨RX0, "kindOf", "(I)I"⟩
abbrev cX0_isNought : ByteArray := prog_2_method_5_code
def yX0_isNought : MethodName := ⟨RX0, "isNought", "(I)Z"⟩
abbrev cX0_slipOf : ByteArray := prog_2_method_6_code
def yX0_slipOf : MethodName := ⟨RX0, "slipOf", "(I)I"⟩
abbrev cX0_putSlip : ByteArray := prog_2_method_7_code
def yX0_putSlip : MethodName := ⟨RX0, "putSlip", "(II)V"⟩
abbrev cX0_seat : ByteArray := prog_2_method_8_code
def yX0_seat : MethodName := ⟨RX0, "seat", "(II)V"⟩
abbrev cX0_clear : ByteArray := prog_2_method_9_code
def yX0_clear : MethodName := ⟨RX0, "clear", "()V"⟩
abbrev cX0_changeWho : ByteArray := prog_2_method_10_code
def yX0_changeWho : MethodName := ⟨RX0, "changeWho", "(I)I"⟩
abbrev cX0_changeTies : ByteArray := prog_2_method_11_code
def yX0_changeTies : MethodName := ⟨RX0, "changeTies", "(I)I"⟩
abbrev cX0_seatAll : ByteArray := prog_2_method_12_code
def yX0_seatAll : MethodName := ⟨RX0, "seatAll", "(LFarthestPays$Company;)V"⟩
abbrev cX0_copyFrom : ByteArray := prog_2_method_13_code
def yX0_copyFrom : MethodName := ⟨RX0, "copyFrom", "(LFarthestPays$Company;)V"⟩
abbrev cX0_writeAlone : ByteArray := prog_2_method_14_code
def yX0_writeAlone : MethodName := ⟨RX0, "writeAlone", "(II)I"⟩
abbrev cX0_slipAlone : ByteArray := prog_2_method_15_code
def yX0_slipAlone : MethodName := ⟨RX0, "slipAlone", "(III)I"⟩
abbrev cX0_due : ByteArray := prog_2_method_16_code
def yX0_due : MethodName := ⟨RX0, "due", "(II)I"⟩
abbrev cX0_payers : ByteArray := prog_2_method_17_code
def yX0_payers : MethodName := ⟨RX0, "payers", "(I)I"⟩
abbrev cX0_freeGuest : ByteArray := prog_2_method_18_code
def yX0_freeGuest : MethodName := ⟨RX0, "freeGuest", "()I"⟩
abbrev cX0_placeOf : ByteArray := prog_2_method_19_code
def yX0_placeOf : MethodName := ⟨RX0, "placeOf", "(I)I"⟩
abbrev cX0_share : ByteArray := prog_2_method_20_code
def yX0_share : MethodName := ⟨RX0, "share", "(III)I"⟩
abbrev cX0_shareOfTwo : ByteArray := prog_2_method_21_code
def yX0_shareOfTwo : MethodName := ⟨RX0, "shareOfTwo", "(II)I"⟩
abbrev cX0_shareOfMost : ByteArray := prog_2_method_22_code
def yX0_shareOfMost : MethodName := ⟨RX0, "shareOfMost", "(III)I"⟩
abbrev cX0_isBetween : ByteArray := prog_2_method_23_code
def yX0_isBetween : MethodName := ⟨RX0, "isBetween", "(III)Z"⟩
def RX1 : String := "FarthestPays$Nights"
def TX1 : u_T := fun k => match k with
  | 0 => ("FarthestPays$Nights", "sums", "[I", true)
  | 1 => ("FarthestPays$Nights", "companies", "[LFarthestPays$Company;", true)
  | _ => ("FarthestPays$Nights", "size", "I", false)
def tyX1 : Nat → FieldType := fun k => match k with
  | 0 => .array .int
  | 1 => .array (.object "FarthestPays$Company")
  | _ => .int
abbrev wsX10 : List Cond := u_ws RX1 TX1 3
theorem nmX1 : ∀ a, a < 3 → ∀ b, b < 3 → a ≠ b → (TX1 a).2.1 ≠ (TX1 b).2.1 := by decide +kernel
theorem tyX1_ok : ∀ k, k < 3 → parseFieldDescriptor (TX1 k).2.2.1 = some (tyX1 k) := by decide +kernel
abbrev cX1_init : ByteArray := prog_3_method_1_code
def yX1_init : MethodName := ⟨RX1, "<init>", "()V"⟩
abbrev cX1_size : ByteArray := prog_3_method_2_code
def yX1_size : MethodName := ⟨RX1, "size", "()I"⟩
abbrev cX1_clear : ByteArray := prog_3_method_3_code
def yX1_clear : MethodName := ⟨RX1, "clear", "()V"⟩
abbrev cX1_append : ByteArray := prog_3_method_4_code
def yX1_append : MethodName := ⟨RX1, "append", "(ILFarthestPays$Company;)V"⟩
abbrev cX1_copyFrom : ByteArray := prog_3_method_5_code
def yX1_copyFrom : MethodName := ⟨RX1, "copyFrom", "(LFarthestPays$Nights;)V"⟩
abbrev cX1_knowers : ByteArray := prog_3_method_6_code
def yX1_knowers : MethodName := ⟨RX1, "knowers", "()I"⟩
abbrev cX1_alwaysKnew : ByteArray := prog_3_method_7_code
def yX1_alwaysKnew : MethodName := ⟨RX1, "alwaysKnew", "(I)Z"⟩
abbrev cX1_pairsAgainst : ByteArray := prog_3_method_8_code
def yX1_pairsAgainst : MethodName := ⟨RX1, "pairsAgainst", "(I)I"⟩
abbrev cX1_firstPairAgainst : ByteArray := prog_3_method_9_code
def yX1_firstPairAgainst : MethodName := ⟨RX1, "firstPairAgainst", "(I)I"⟩
abbrev cX1_alwaysPaid : ByteArray := prog_3_method_10_code
def yX1_alwaysPaid : MethodName := ⟨RX1, "alwaysPaid", "(I)Z"⟩
abbrev cX1_alwaysBetween : ByteArray := prog_3_method_11_code
def yX1_alwaysBetween : MethodName := ⟨RX1, "alwaysBetween", "(III)Z"⟩
def RX2 : String := "FarthestPays$Sheet"
def TX2 : u_T := fun k => match k with
  | 0 => ("FarthestPays$Sheet", "items", "[J", true)
  | 1 => ("FarthestPays$Sheet", "lane", "I", false)
  | _ => ("FarthestPays$Sheet", "size", "I", false)
def tyX2 : Nat → FieldType := fun k => match k with
  | 0 => .array .long
  | 1 => .int
  | _ => .int
abbrev wsX20 : List Cond := u_ws RX2 TX2 3
theorem nmX2 : ∀ a, a < 3 → ∀ b, b < 3 → a ≠ b → (TX2 a).2.1 ≠ (TX2 b).2.1 := by decide +kernel
theorem tyX2_ok : ∀ k, k < 3 → parseFieldDescriptor (TX2 k).2.2.1 = some (tyX2 k) := by decide +kernel
abbrev cX2_init : ByteArray := prog_4_method_1_code
def yX2_init : MethodName := ⟨RX2, "<init>", "()V"⟩
abbrev cX2_isMissing : ByteArray := prog_4_method_2_code
def yX2_isMissing : MethodName := ⟨RX2, "isMissing", "()Z"⟩
abbrev cX2_size : ByteArray := prog_4_method_3_code
def yX2_size : MethodName := ⟨RX2, "size", "()I"⟩
abbrev cX2_begin : ByteArray := prog_4_method_4_code
def yX2_begin : MethodName := ⟨RX2, "begin", "(II)V"⟩
abbrev cX2_end : ByteArray := prog_4_method_5_code
def yX2_end : MethodName := ⟨RX2, "end", "()V"⟩
abbrev cX2_refusal : ByteArray := prog_4_method_6_code
def yX2_refusal : MethodName := ⟨RX2, "refusal", "(III)I"⟩
abbrev cX2_itemAt : ByteArray := prog_4_method_7_code
def yX2_itemAt : MethodName := ⟨RX2, "itemAt", "(I)J"⟩
abbrev cX2_put : ByteArray := prog_4_method_8_code
def yX2_put : MethodName := ⟨RX2, "put", "(IJ)V"⟩
abbrev cX2_narrowed : ByteArray := prog_4_method_9_code
def yX2_narrowed : MethodName := ⟨RX2, "narrowed", "(J)J"⟩
abbrev cX2_weightsTogether : ByteArray := prog_4_method_10_code
def yX2_weightsTogether : MethodName := ⟨RX2, "weightsTogether", "(II)J"⟩
def RX3 : String := "FarthestPays$Supper"
def TX3 : u_T := fun k => match k with
  | _ => ("FarthestPays$Supper", "weights", "[I", true)
def tyX3 : Nat → FieldType := fun k => match k with
  | _ => .array .int
abbrev wsX30 : List Cond := u_ws RX3 TX3 1
theorem nmX3 : ∀ a, a < 1 → ∀ b, b < 1 → a ≠ b → (TX3 a).2.1 ≠ (TX3 b).2.1 := by decide +kernel
theorem tyX3_ok : ∀ k, k < 1 → parseFieldDescriptor (TX3 k).2.2.1 = some (tyX3 k) := by decide +kernel
abbrev cX3_init : ByteArray := prog_5_method_1_code
def yX3_init : MethodName := ⟨RX3, "<init>", "()V"⟩
abbrev cX3_weightOf : ByteArray := prog_5_method_2_code
def yX3_weightOf : MethodName := ⟨RX3, "weightOf", "(I)I"⟩
abbrev cX3_putWeight : ByteArray := prog_5_method_3_code
def yX3_putWeight : MethodName := ⟨RX3, "putWeight", "(II)V"⟩
abbrev cX3_clear : ByteArray := prog_5_method_4_code
def yX3_clear : MethodName := ⟨RX3, "clear", "()V"⟩
abbrev cX3_copyFrom : ByteArray := prog_5_method_5_code
def yX3_copyFrom : MethodName := ⟨RX3, "copyFrom", "(LFarthestPays$Supper;)V"⟩
abbrev cX3_together : ByteArray := prog_5_method_6_code
def yX3_together : MethodName := ⟨RX3, "together", "()I"⟩
abbrev cX3_sumsOfWeight : ByteArray := prog_5_method_7_code
def yX3_sumsOfWeight : MethodName := ⟨RX3, "sumsOfWeight", "()I"⟩
abbrev cX3_weighed : ByteArray := prog_5_method_8_code
def yX3_weighed : MethodName := ⟨RX3, "weighed", "()I"⟩
abbrev cX3_meanSum : ByteArray := prog_5_method_9_code
def yX3_meanSum : MethodName := ⟨RX3, "meanSum", "()I"⟩
def RX4 : String := "FarthestPays$Table"
def TX4 : u_T := fun k => match k with
  | 0 => ("FarthestPays$Table", "supper", "LFarthestPays$Supper;", true)
  | 1 => ("FarthestPays$Table", "company", "LFarthestPays$Company;", true)
  | _ => ("FarthestPays$Table", "nights", "LFarthestPays$Nights;", true)
def tyX4 : Nat → FieldType := fun k => match k with
  | 0 => .object "FarthestPays$Supper"
  | 1 => .object "FarthestPays$Company"
  | _ => .object "FarthestPays$Nights"
abbrev wsX40 : List Cond := u_ws RX4 TX4 3
theorem nmX4 : ∀ a, a < 3 → ∀ b, b < 3 → a ≠ b → (TX4 a).2.1 ≠ (TX4 b).2.1 := by decide +kernel
theorem tyX4_ok : ∀ k, k < 3 → parseFieldDescriptor (TX4 k).2.2.1 = some (tyX4 k) := by decide +kernel
abbrev cX4_init : ByteArray := prog_6_method_1_code
def yX4_init : MethodName := ⟨RX4, "<init>", "()V"⟩
abbrev cX4_copyFrom : ByteArray := prog_6_method_2_code
def yX4_copyFrom : MethodName := ⟨RX4, "copyFrom", "(LFarthestPays$Table;)V"⟩
abbrev cX4_burden : ByteArray := prog_6_method_3_code
def yX4_burden : MethodName := ⟨RX4, "burden", "(I)J"⟩
abbrev cX4_wholeBurden : ByteArray := prog_6_method_4_code
def yX4_wholeBurden : MethodName := ⟨RX4, "wholeBurden", "()J"⟩
abbrev cX4_burdenBy : ByteArray := prog_6_method_5_code
def yX4_burdenBy : MethodName := ⟨RX4, "burdenBy", "(II)J"⟩
abbrev cX4_lightestSlip : ByteArray := prog_6_method_6_code
def yX4_lightestSlip : MethodName := ⟨RX4, "lightestSlip", "(I)I"⟩
abbrev cX4_betterSlip : ByteArray := prog_6_method_7_code
def yX4_betterSlip : MethodName := ⟨RX4, "betterSlip", "(I)I"⟩
abbrev cX4_nobodyWouldChange : ByteArray := prog_6_method_8_code
def yX4_nobodyWouldChange : MethodName := ⟨RX4, "nobodyWouldChange", "()Z"⟩
abbrev cX4_takeTurns : ByteArray := prog_6_method_9_code
def yX4_takeTurns : MethodName := ⟨RX4, "takeTurns", "(I)I"⟩
abbrev cX4_hardestPair : ByteArray := prog_6_method_10_code
def yX4_hardestPair : MethodName := ⟨RX4, "hardestPair", "(IIIJ)I"⟩
abbrev cX4_putPair : ByteArray := prog_6_method_11_code
def yX4_putPair : MethodName := ⟨RX4, "putPair", "(III)V"⟩
abbrev cX4_burdenByPair : ByteArray := prog_6_method_12_code
def yX4_burdenByPair : MethodName := ⟨RX4, "burdenByPair", "(IIII)J"⟩
abbrev cX4_safestSlip : ByteArray := prog_6_method_13_code
def yX4_safestSlip : MethodName := ⟨RX4, "safestSlip", "(III)I"⟩
def RX5 : String := "FarthestPays$Tape"
def TX5 : u_T := fun k => match k with
  | 0 => ("FarthestPays$Tape", "bytes", "[I", true)
  | 1 => ("FarthestPays$Tape", "size", "I", false)
  | 2 => ("FarthestPays$Tape", "at", "I", false)
  | _ => ("FarthestPays$Tape", "fault", "I", false)
def tyX5 : Nat → FieldType := fun k => match k with
  | 0 => .array .int
  | 1 => .int
  | 2 => .int
  | _ => .int
abbrev wsX50 : List Cond := u_ws RX5 TX5 4
theorem nmX5 : ∀ a, a < 4 → ∀ b, b < 4 → a ≠ b → (TX5 a).2.1 ≠ (TX5 b).2.1 := by decide +kernel
theorem tyX5_ok : ∀ k, k < 4 → parseFieldDescriptor (TX5 k).2.2.1 = some (tyX5 k) := by decide +kernel
abbrev cX5_init : ByteArray := prog_7_method_1_code
def yX5_init : MethodName := ⟨RX5, "<init>", "()V"⟩
abbrev cX5_size : ByteArray := prog_7_method_2_code
def yX5_size : MethodName := ⟨RX5, "size", "()I"⟩
abbrev cX5_append : ByteArray := prog_7_method_3_code
def yX5_append : MethodName := ⟨RX5, "append", "(I)V"⟩
abbrev cX5_takeSupper : ByteArray := prog_7_method_4_code
def yX5_takeSupper : MethodName := ⟨RX5, "takeSupper", "(LFarthestPays$Supper;)I"⟩
abbrev cX5_takeGuests : ByteArray := prog_7_method_5_code
def yX5_takeGuests : MethodName := ⟨RX5, "takeGuests", "(LFarthestPays$Company;)I"⟩
abbrev cX5_readDish : ByteArray := prog_7_method_6_code
def yX5_readDish : MethodName := ⟨RX5, "readDish", "(LFarthestPays$Supper;)V"⟩
abbrev cX5_readGuest : ByteArray := prog_7_method_7_code
def yX5_readGuest : MethodName := ⟨RX5, "readGuest", "(LFarthestPays$Company;)V"⟩
abbrev cX5_readKind : ByteArray := prog_7_method_8_code
def yX5_readKind : MethodName := ⟨RX5, "readKind", "()I"⟩
abbrev cX5_kindBy : ByteArray := prog_7_method_9_code
def yX5_kindBy : MethodName := ⟨RX5, "kindBy", "(I)I"⟩
abbrev cX5_begin : ByteArray := prog_7_method_10_code
def yX5_begin : MethodName := ⟨RX5, "begin", "()V"⟩
abbrev cX5_faultAt : ByteArray := prog_7_method_11_code
def yX5_faultAt : MethodName := ⟨RX5, "faultAt", "(I)V"⟩
abbrev cX5_skipBlanks : ByteArray := prog_7_method_12_code
def yX5_skipBlanks : MethodName := ⟨RX5, "skipBlanks", "()V"⟩
abbrev cX5_next : ByteArray := prog_7_method_13_code
def yX5_next : MethodName := ⟨RX5, "next", "()I"⟩
abbrev cX5_isFigure : ByteArray := prog_7_method_14_code
def yX5_isFigure : MethodName := ⟨RX5, "isFigure", "(I)Z"⟩
abbrev cX5_readSign : ByteArray := prog_7_method_15_code
def yX5_readSign : MethodName := ⟨RX5, "readSign", "(I)V"⟩
abbrev cX5_readNumber : ByteArray := prog_7_method_16_code
def yX5_readNumber : MethodName := ⟨RX5, "readNumber", "(II)I"⟩
abbrev cX5_goesOn : ByteArray := prog_7_method_17_code
def yX5_goesOn : MethodName := ⟨RX5, "goesOn", "(IZ)Z"⟩
def RX6 : String := "FarthestPays"
def TX6 : u_T := fun k => match k with
  | 0 => ("FarthestPays", "now", "LFarthestPays$Table;", true)
  | 1 => ("FarthestPays", "kept", "LFarthestPays$Table;", true)
  | 2 => ("FarthestPays", "hasImage", "Z", false)
  | 3 => ("FarthestPays", "tape", "LFarthestPays$Tape;", true)
  | 4 => ("FarthestPays", "readSupper", "LFarthestPays$Supper;", true)
  | 5 => ("FarthestPays", "readCompany", "LFarthestPays$Company;", true)
  | _ => ("FarthestPays", "sheets", "[LFarthestPays$Sheet;", true)
def tyX6 : Nat → FieldType := fun k => match k with
  | 0 => .object "FarthestPays$Table"
  | 1 => .object "FarthestPays$Table"
  | 2 => .boolean
  | 3 => .object "FarthestPays$Tape"
  | 4 => .object "FarthestPays$Supper"
  | 5 => .object "FarthestPays$Company"
  | _ => .array (.object "FarthestPays$Sheet")
abbrev wsX60 : List Cond := u_ws RX6 TX6 7
theorem nmX6 : ∀ a, a < 7 → ∀ b, b < 7 → a ≠ b → (TX6 a).2.1 ≠ (TX6 b).2.1 := by decide +kernel
theorem tyX6_ok : ∀ k, k < 7 → parseFieldDescriptor (TX6 k).2.2.1 = some (tyX6 k) := by decide +kernel
abbrev cX6_init : ByteArray := prog_1_method_1_code
def yX6_init : MethodName := ⟨RX6, "<init>", "()V"⟩
abbrev cX6_weight : ByteArray := prog_1_method_2_code
def yX6_weight : MethodName := ⟨RX6, "weight", "(II)I"⟩
abbrev cX6_guest : ByteArray := prog_1_method_3_code
def yX6_guest : MethodName := ⟨RX6, "guest", "(I)I"⟩
abbrev cX6_slip : ByteArray := prog_1_method_4_code
def yX6_slip : MethodName := ⟨RX6, "slip", "(II)I"⟩
abbrev cX6_write : ByteArray := prog_1_method_5_code
def yX6_write : MethodName := ⟨RX6, "write", "(I)I"⟩
abbrev cX6_told : ByteArray := prog_1_method_6_code
def yX6_told : MethodName := ⟨RX6, "told", "(II)I"⟩
abbrev cX6_rule : ByteArray := prog_1_method_7_code
def yX6_rule : MethodName := ⟨RX6, "rule", "(II)I"⟩
abbrev cX6_type : ByteArray := prog_1_method_8_code
def yX6_type : MethodName := ⟨RX6, "type", "(JI)I"⟩
abbrev cX6_supper : ByteArray := prog_1_method_9_code
def yX6_supper : MethodName := ⟨RX6, "supper", "()I"⟩
abbrev cX6_guests : ByteArray := prog_1_method_10_code
def yX6_guests : MethodName := ⟨RX6, "guests", "()I"⟩
abbrev cX6_count : ByteArray := prog_1_method_11_code
def yX6_count : MethodName := ⟨RX6, "count", "(I)I"⟩
abbrev cX6_pay : ByteArray := prog_1_method_12_code
def yX6_pay : MethodName := ⟨RX6, "pay", "(I)I"⟩
abbrev cX6_pays : ByteArray := prog_1_method_13_code
def yX6_pays : MethodName := ⟨RX6, "pays", "(III)I"⟩
abbrev cX6_mean : ByteArray := prog_1_method_14_code
def yX6_mean : MethodName := ⟨RX6, "mean", "(II)J"⟩
abbrev cX6_best : ByteArray := prog_1_method_15_code
def yX6_best : MethodName := ⟨RX6, "best", "(I)I"⟩
abbrev cX6_still : ByteArray := prog_1_method_16_code
def yX6_still : MethodName := ⟨RX6, "still", "()I"⟩
abbrev cX6_turns : ByteArray := prog_1_method_17_code
def yX6_turns : MethodName := ⟨RX6, "turns", "(I)I"⟩
abbrev cX6_league : ByteArray := prog_1_method_18_code
def yX6_league : MethodName := ⟨RX6, "league", "(IIII)I"⟩
abbrev cX6_shun : ByteArray := prog_1_method_19_code
def yX6_shun : MethodName := ⟨RX6, "shun", "(III)I"⟩
abbrev cX6_host : ByteArray := prog_1_method_20_code
def yX6_host : MethodName := ⟨RX6, "host", "(II)I"⟩
abbrev cX6_choice : ByteArray := prog_1_method_21_code
def yX6_choice : MethodName := ⟨RX6, "choice", "(I)I"⟩
abbrev cX6_night : ByteArray := prog_1_method_22_code
def yX6_night : MethodName := ⟨RX6, "night", "(I)I"⟩
abbrev cX6_knew : ByteArray := prog_1_method_23_code
def yX6_knew : MethodName := ⟨RX6, "knew", "()I"⟩
abbrev cX6_leagues : ByteArray := prog_1_method_24_code
def yX6_leagues : MethodName := ⟨RX6, "leagues", "(II)I"⟩
abbrev cX6_forget : ByteArray := prog_1_method_25_code
def yX6_forget : MethodName := ⟨RX6, "forget", "()I"⟩
abbrev cX6_image : ByteArray := prog_1_method_26_code
def yX6_image : MethodName := ⟨RX6, "image", "()I"⟩
abbrev cX6_restore : ByteArray := prog_1_method_27_code
def yX6_restore : MethodName := ⟨RX6, "restore", "()I"⟩
abbrev cX6_mixed : ByteArray := prog_1_method_28_code
def yX6_mixed : MethodName := ⟨RX6, "mixed", "(IIIIII)J"⟩
abbrev cX6_sheet : ByteArray := prog_1_method_29_code
def yX6_sheet : MethodName := ⟨RX6, "sheet", "(III)I"⟩
abbrev cX6_drop : ByteArray := prog_1_method_30_code
def yX6_drop : MethodName := ⟨RX6, "drop", "(I)I"⟩
abbrev cX6_item : ByteArray := prog_1_method_31_code
def yX6_item : MethodName := ⟨RX6, "item", "(IIIJ)I"⟩
abbrev cX6_film : ByteArray := prog_1_method_32_code
def yX6_film : MethodName := ⟨RX6, "film", "(III)I"⟩
abbrev cX6_isSum : ByteArray := prog_1_method_33_code
def yX6_isSum : MethodName := ⟨RX6, "isSum", "(I)Z"⟩
abbrev cX6_isSetOfSums : ByteArray := prog_1_method_34_code
def yX6_isSetOfSums : MethodName := ⟨RX6, "isSetOfSums", "(I)Z"⟩
abbrev cX6_isPart : ByteArray := prog_1_method_35_code
def yX6_isPart : MethodName := ⟨RX6, "isPart", "(I)Z"⟩
abbrev cX6_isSheet : ByteArray := prog_1_method_36_code
def yX6_isSheet : MethodName := ⟨RX6, "isSheet", "(I)Z"⟩
abbrev cX6_isLane : ByteArray := prog_1_method_37_code
def yX6_isLane : MethodName := ⟨RX6, "isLane", "(I)Z"⟩
abbrev cX6_areThree : ByteArray := prog_1_method_38_code
def yX6_areThree : MethodName := ⟨RX6, "areThree", "(III)Z"⟩
abbrev cX6_byteOf : ByteArray := prog_1_method_39_code
def yX6_byteOf : MethodName := ⟨RX6, "byteOf", "(JI)I"⟩
abbrev cX6_isPrintable : ByteArray := prog_1_method_40_code
def yX6_isPrintable : MethodName := ⟨RX6, "isPrintable", "(JI)Z"⟩
abbrev cX6_lowest : ByteArray := prog_1_method_41_code
def yX6_lowest : MethodName := ⟨RX6, "lowest", "(JJI)J"⟩
def RX7 : String := "FarthestPaysModel"
def TX7 : u_T := fun k => match k with
  | 0 => ("FarthestPaysModel", "weights", "[I", true)
  | 1 => ("FarthestPaysModel", "kinds", "[I", true)
  | 2 => ("FarthestPaysModel", "slips", "[I", true)
  | 3 => ("FarthestPaysModel", "laws", "[I", true)
  | 4 => ("FarthestPaysModel", "many", "I", false)
  | 5 => ("FarthestPaysModel", "nightSums", "[I", true)
  | 6 => ("FarthestPaysModel", "nightMany", "[I", true)
  | 7 => ("FarthestPaysModel", "nightPaid", "[I", true)
  | 8 => ("FarthestPaysModel", "nightSlips", "[I", true)
  | 9 => ("FarthestPaysModel", "nights", "I", false)
  | 10 => ("FarthestPaysModel", "tape", "[I", true)
  | 11 => ("FarthestPaysModel", "taped", "I", false)
  | 12 => ("FarthestPaysModel", "place", "I", false)
  | 13 => ("FarthestPaysModel", "reads", "I", false)
  | 14 => ("FarthestPaysModel", "read", "[I", true)
  | 15 => ("FarthestPaysModel", "leagueParts", "I", false)
  | 16 => ("FarthestPaysModel", "isKept", "Z", false)
  | 17 => ("FarthestPaysModel", "kept", "[I", true)
  | 18 => ("FarthestPaysModel", "keptMany", "I", false)
  | 19 => ("FarthestPaysModel", "keptNights", "I", false)
  | 20 => ("FarthestPaysModel", "lanes", "[I", true)
  | 21 => ("FarthestPaysModel", "rowSizes", "[I", true)
  | _ => ("FarthestPaysModel", "items", "[J", true)
def tyX7 : Nat → FieldType := fun k => match k with
  | 0 => .array .int
  | 1 => .array .int
  | 2 => .array .int
  | 3 => .array .int
  | 4 => .int
  | 5 => .array .int
  | 6 => .array .int
  | 7 => .array .int
  | 8 => .array .int
  | 9 => .int
  | 10 => .array .int
  | 11 => .int
  | 12 => .int
  | 13 => .int
  | 14 => .array .int
  | 15 => .int
  | 16 => .boolean
  | 17 => .array .int
  | 18 => .int
  | 19 => .int
  | 20 => .array .int
  | 21 => .array .int
  | _ => .array .long
abbrev wsX70 : List Cond := u_ws RX7 TX7 23
theorem nmX7 : ∀ a, a < 23 → ∀ b, b < 23 → a ≠ b → (TX7 a).2.1 ≠ (TX7 b).2.1 := by decide +kernel
theorem tyX7_ok : ∀ k, k < 23 → parseFieldDescriptor (TX7 k).2.2.1 = some (tyX7 k) := by decide +kernel
abbrev cX7_init : ByteArray := prog_9_method_1_code
def yX7_init : MethodName := ⟨RX7, "<init>", "()V"⟩
abbrev cX7_in : ByteArray := prog_9_method_2_code
def yX7_in : MethodName := ⟨RX7, "in", "(JJJ)Z"⟩
abbrev cX7_isSum : ByteArray := prog_9_method_3_code
def yX7_isSum : MethodName := ⟨RX7, "isSum", "(J)Z"⟩
abbrev cX7_isGuest : ByteArray := prog_9_method_4_code
def yX7_isGuest : MethodName := ⟨RX7, "isGuest", "(I)Z"⟩
abbrev cX7_has : ByteArray := prog_9_method_5_code
def yX7_has : MethodName := ⟨RX7, "has", "(II)Z"⟩
abbrev cX7_ones : ByteArray := prog_9_method_6_code
def yX7_ones : MethodName := ⟨RX7, "ones", "(I)I"⟩
abbrev cX7_weight : ByteArray := prog_9_method_7_code
def yX7_weight : MethodName := ⟨RX7, "weight", "(II)I"⟩
abbrev cX7_add : ByteArray := prog_9_method_8_code
def yX7_add : MethodName := ⟨RX7, "add", "(II)V"⟩
abbrev cX7_guest : ByteArray := prog_9_method_9_code
def yX7_guest : MethodName := ⟨RX7, "guest", "(I)I"⟩
abbrev cX7_slip : ByteArray := prog_9_method_10_code
def yX7_slip : MethodName := ⟨RX7, "slip", "(II)I"⟩
abbrev cX7_allWeights : ByteArray := prog_9_method_11_code
def yX7_allWeights : MethodName := ⟨RX7, "allWeights", "()I"⟩
abbrev cX7_write : ByteArray := prog_9_method_12_code
def yX7_write : MethodName := ⟨RX7, "write", "(I)I"⟩
abbrev cX7_told : ByteArray := prog_9_method_13_code
def yX7_told : MethodName := ⟨RX7, "told", "(II)I"⟩
abbrev cX7_rule : ByteArray := prog_9_method_14_code
def yX7_rule : MethodName := ⟨RX7, "rule", "(II)I"⟩
abbrev cX7_count : ByteArray := prog_9_method_15_code
def yX7_count : MethodName := ⟨RX7, "count", "(I)I"⟩
abbrev cX7_type : ByteArray := prog_9_method_16_code
def yX7_type : MethodName := ⟨RX7, "type", "(JI)I"⟩
abbrev cX7_nextByte : ByteArray := prog_9_method_17_code
def yX7_nextByte : MethodName := ⟨RX7, "nextByte", "()I"⟩
abbrev cX7_readNumber : ByteArray := prog_9_method_18_code
def yX7_readNumber : MethodName := ⟨RX7, "readNumber", "(II)I"⟩
abbrev cX7_readCourse : ByteArray := prog_9_method_19_code
def yX7_readCourse : MethodName := ⟨RX7, "readCourse", "()Z"⟩
abbrev cX7_readSupper : ByteArray := prog_9_method_20_code
def yX7_readSupper : MethodName := ⟨RX7, "readSupper", "()Z"⟩
abbrev cX7_supper : ByteArray := prog_9_method_21_code
def yX7_supper : MethodName := ⟨RX7, "supper", "()I"⟩
abbrev cX7_readGuest : ByteArray := prog_9_method_22_code
def yX7_readGuest : MethodName := ⟨RX7, "readGuest", "(I)Z"⟩
abbrev cX7_readGuests : ByteArray := prog_9_method_23_code
def yX7_readGuests : MethodName := ⟨RX7, "readGuests", "()Z"⟩
abbrev cX7_guests : ByteArray := prog_9_method_24_code
def yX7_guests : MethodName := ⟨RX7, "guests", "()I"⟩
abbrev cX7_off : ByteArray := prog_9_method_25_code
def yX7_off : MethodName := ⟨RX7, "off", "(II)I"⟩
abbrev cX7_middle : ByteArray := prog_9_method_26_code
def yX7_middle : MethodName := ⟨RX7, "middle", "()I"⟩
abbrev cX7_farthest : ByteArray := prog_9_method_27_code
def yX7_farthest : MethodName := ⟨RX7, "farthest", "(IIZ)I"⟩
abbrev cX7_oneOf : ByteArray := prog_9_method_28_code
def yX7_oneOf : MethodName := ⟨RX7, "oneOf", "(I)I"⟩
abbrev cX7_firstOff : ByteArray := prog_9_method_29_code
def yX7_firstOff : MethodName := ⟨RX7, "firstOff", "(II)I"⟩
abbrev cX7_payers : ByteArray := prog_9_method_30_code
def yX7_payers : MethodName := ⟨RX7, "payers", "(I)I"⟩
abbrev cX7_pay : ByteArray := prog_9_method_31_code
def yX7_pay : MethodName := ⟨RX7, "pay", "(I)I"⟩
abbrev cX7_partsFor : ByteArray := prog_9_method_32_code
def yX7_partsFor : MethodName := ⟨RX7, "partsFor", "(II)I"⟩
abbrev cX7_common : ByteArray := prog_9_method_33_code
def yX7_common : MethodName := ⟨RX7, "common", "(JJ)J"⟩
abbrev cX7_part : ByteArray := prog_9_method_34_code
def yX7_part : MethodName := ⟨RX7, "part", "(JJI)J"⟩
abbrev cX7_pays : ByteArray := prog_9_method_35_code
def yX7_pays : MethodName := ⟨RX7, "pays", "(III)I"⟩
abbrev cX7_meanParts : ByteArray := prog_9_method_36_code
def yX7_meanParts : MethodName := ⟨RX7, "meanParts", "(I)I"⟩
abbrev cX7_mean : ByteArray := prog_9_method_37_code
def yX7_mean : MethodName := ⟨RX7, "mean", "(II)J"⟩
abbrev cX7_meanBy : ByteArray := prog_9_method_38_code
def yX7_meanBy : MethodName := ⟨RX7, "meanBy", "(II)I"⟩
abbrev cX7_bestOf : ByteArray := prog_9_method_39_code
def yX7_bestOf : MethodName := ⟨RX7, "bestOf", "(I)I"⟩
abbrev cX7_best : ByteArray := prog_9_method_40_code
def yX7_best : MethodName := ⟨RX7, "best", "(I)I"⟩
abbrev cX7_isStill : ByteArray := prog_9_method_41_code
def yX7_isStill : MethodName := ⟨RX7, "isStill", "(I)Z"⟩
abbrev cX7_still : ByteArray := prog_9_method_42_code
def yX7_still : MethodName := ⟨RX7, "still", "()I"⟩
abbrev cX7_turns : ByteArray := prog_9_method_43_code
def yX7_turns : MethodName := ⟨RX7, "turns", "(I)I"⟩
abbrev cX7_areThree : ByteArray := prog_9_method_44_code
def yX7_areThree : MethodName := ⟨RX7, "areThree", "(III)Z"⟩
abbrev cX7_leagueOf : ByteArray := prog_9_method_45_code
def yX7_leagueOf : MethodName := ⟨RX7, "leagueOf", "(III)I"⟩
abbrev cX7_league : ByteArray := prog_9_method_46_code
def yX7_league : MethodName := ⟨RX7, "league", "(IIII)I"⟩
abbrev cX7_shun : ByteArray := prog_9_method_47_code
def yX7_shun : MethodName := ⟨RX7, "shun", "(III)I"⟩
abbrev cX7_areSums : ByteArray := prog_9_method_48_code
def yX7_areSums : MethodName := ⟨RX7, "areSums", "(I)Z"⟩
abbrev cX7_host : ByteArray := prog_9_method_49_code
def yX7_host : MethodName := ⟨RX7, "host", "(II)I"⟩
abbrev cX7_choice : ByteArray := prog_9_method_50_code
def yX7_choice : MethodName := ⟨RX7, "choice", "(I)I"⟩
abbrev cX7_night : ByteArray := prog_9_method_51_code
def yX7_night : MethodName := ⟨RX7, "night", "(I)I"⟩
abbrev cX7_wasThere : ByteArray := prog_9_method_52_code
def yX7_wasThere : MethodName := ⟨RX7, "wasThere", "(I)Z"⟩
abbrev cX7_knew : ByteArray := prog_9_method_53_code
def yX7_knew : MethodName := ⟨RX7, "knew", "()I"⟩
abbrev cX7_areLeague : ByteArray := prog_9_method_54_code
def yX7_areLeague : MethodName := ⟨RX7, "areLeague", "(III)Z"⟩
abbrev cX7_leagues : ByteArray := prog_9_method_55_code
def yX7_leagues : MethodName := ⟨RX7, "leagues", "(II)I"⟩
abbrev cX7_forget : ByteArray := prog_9_method_56_code
def yX7_forget : MethodName := ⟨RX7, "forget", "()I"⟩
abbrev cX7_carried : ByteArray := prog_9_method_57_code
def yX7_carried : MethodName := ⟨RX7, "carried", "(IIZ)I"⟩
abbrev cX7_image : ByteArray := prog_9_method_58_code
def yX7_image : MethodName := ⟨RX7, "image", "()I"⟩
abbrev cX7_restore : ByteArray := prog_9_method_59_code
def yX7_restore : MethodName := ⟨RX7, "restore", "()I"⟩
abbrev cX7_isSheet : ByteArray := prog_9_method_60_code
def yX7_isSheet : MethodName := ⟨RX7, "isSheet", "(II)Z"⟩
abbrev cX7_asLane : ByteArray := prog_9_method_61_code
def yX7_asLane : MethodName := ⟨RX7, "asLane", "(IJ)J"⟩
abbrev cX7_sheet : ByteArray := prog_9_method_62_code
def yX7_sheet : MethodName := ⟨RX7, "sheet", "(III)I"⟩
abbrev cX7_drop : ByteArray := prog_9_method_63_code
def yX7_drop : MethodName := ⟨RX7, "drop", "(I)I"⟩
abbrev cX7_lacksRow : ByteArray := prog_9_method_64_code
def yX7_lacksRow : MethodName := ⟨RX7, "lacksRow", "(IIII)I"⟩
abbrev cX7_item : ByteArray := prog_9_method_65_code
def yX7_item : MethodName := ⟨RX7, "item", "(IIIJ)I"⟩
abbrev cX7_mixed : ByteArray := prog_9_method_66_code
def yX7_mixed : MethodName := ⟨RX7, "mixed", "(IIIIII)J"⟩
abbrev cX7_film : ByteArray := prog_9_method_67_code
def yX7_film : MethodName := ⟨RX7, "film", "(III)I"⟩
abbrev classes : List vw_C := [(RX0, TX0, 5), (RX1, TX1, 3), (RX2, TX2, 3), (RX3, TX3, 1), (RX4, TX4, 3), (RX5, TX5, 4), (RX6, TX6, 7), (RX7, TX7, 23)]
theorem inX0 : ∀ w ∈ wsX00, w ∈ lw_tbl := by decide +kernel
theorem inX1 : ∀ w ∈ wsX10, w ∈ lw_tbl := by decide +kernel
theorem inX2 : ∀ w ∈ wsX20, w ∈ lw_tbl := by decide +kernel
theorem inX3 : ∀ w ∈ wsX30, w ∈ lw_tbl := by decide +kernel
theorem inX4 : ∀ w ∈ wsX40, w ∈ lw_tbl := by decide +kernel
theorem inX5 : ∀ w ∈ wsX50, w ∈ lw_tbl := by decide +kernel
theorem inX6 : ∀ w ∈ wsX60, w ∈ lw_tbl := by decide +kernel
theorem inX7 : ∀ w ∈ wsX70, w ∈ lw_tbl := by decide +kernel
def z_tbl : List Cond := lw_tbl.filter goodWord
theorem z_good : GoodIn z_tbl z_tbl := fun w h => ⟨h, good_of_word (List.mem_filter.mp h).2⟩
theorem z_mem {w : Cond} (i : Nat) (h : lw_tbl[i]? = some w) (hg : goodWord w = true) : w ∈ z_tbl := List.mem_filter.mpr ⟨List.mem_of_getElem? h, hg⟩
theorem z_sub {ws : List Cond} (h : ∀ w ∈ ws, w ∈ lw_tbl) (hg : ws.all goodWord = true) : ∀ w ∈ ws, w ∈ z_tbl := fun w hw => List.mem_filter.mpr ⟨h w hw, List.all_eq_true.mp hg w hw⟩
theorem izX0 : ∀ w ∈ wsX00, w ∈ z_tbl := z_sub inX0 (by decide +kernel)
theorem izX1 : ∀ w ∈ wsX10, w ∈ z_tbl := z_sub inX1 (by decide +kernel)
theorem izX2 : ∀ w ∈ wsX20, w ∈ z_tbl := z_sub inX2 (by decide +kernel)
theorem izX3 : ∀ w ∈ wsX30, w ∈ z_tbl := z_sub inX3 (by decide +kernel)
theorem izX4 : ∀ w ∈ wsX40, w ∈ z_tbl := z_sub inX4 (by decide +kernel)
theorem izX5 : ∀ w ∈ wsX50, w ∈ z_tbl := z_sub inX5 (by decide +kernel)
theorem izX6 : ∀ w ∈ wsX60, w ∈ z_tbl := z_sub inX6 (by decide +kernel)
theorem izX7 : ∀ w ∈ wsX70, w ∈ z_tbl := z_sub inX7 (by decide +kernel)
end
section
/-! THE ABSTRACT MACHINE: numbers are mathematical integers, references are places in a list of cells. -/
abbrev zV : Type := Int ⊕ (Int ⊕ Nat)
abbrev zF : Type := (Int → Int) ⊕ ((Int → Int) ⊕ (Int → Nat))
abbrev zC : Type := (Nat × List zV) ⊕ (Nat × (Nat × zF))
abbrev zL : Type := List (Nat × zV)
abbrev zW : Type := List zC
abbrev zI : Type := Instr × (Nat × List Nat)
abbrev zG : Type := Nat → zL → List zV → zW → Prop
def z_a {α : Type} : List (Nat × α) → Nat → Option α
  | [], _ => none
  | q :: l, k => bif Nat.beq q.1 k then some q.2 else z_a l k
def z_g {α : Type} : List α → Nat → Option α
  | [], _ => none
  | a :: _, 0 => some a
  | _ :: l, k + 1 => z_g l k
def z_s {α : Type} : List α → Nat → α → List α
  | [], _, _ => []
  | _ :: l, 0, v => v :: l
  | a :: l, k + 1, v => a :: z_s l k v
theorem z_g_eq {α : Type} : ∀ (l : List α) (k : Nat), z_g l k = l[k]?
  | [], k => by simp [z_g]
  | a :: l, 0 => by simp [z_g]
  | a :: l, k + 1 => by simp [z_g, z_g_eq l k]
theorem z_s_eq {α : Type} : ∀ (l : List α) (k : Nat) (v : α), z_s l k v = l.set k v
  | [], k, v => by simp [z_s]
  | a :: l, 0, v => by simp [z_s]
  | a :: l, k + 1, v => by simp [z_s, z_s_eq l k v]
theorem z_a_mem {α : Type} : ∀ {l : List (Nat × α)} {k : Nat} {v : α}, z_a l k = some v → (k, v) ∈ l
  | [], k, v, h => by simp [z_a] at h
  | q :: l, k, v, h => by
    rw [z_a] at h
    cases hb : Nat.beq q.1 k with
    | true =>
      rw [hb] at h
      have e1 := Nat.eq_of_beq_eq_true hb
      have e2 : q.2 = v := by simpa using h
      have : q = (k, v) := by rw [← e1, ← e2]
      rw [← this]
      exact List.mem_cons_self
    | false =>
      rw [hb] at h
      exact List.mem_cons_of_mem _ (z_a_mem (by simpa using h))
def z_isL : zV → Bool
  | .inr (.inl _) => true
  | _ => false
def z_clash (j : Nat) (u : zV) (i : Nat) (v : zV) : Bool := Nat.beq j i || ((Nat.beq (j + 1) i && z_isL u) || (z_isL v && Nat.beq j (i + 1)))
def z_ldrop (i : Nat) (v : zV) : zL → zL
  | [] => []
  | q :: l => bif z_clash q.1 q.2 i v then z_ldrop i v l else q :: z_ldrop i v l
def z_lput (i : Nat) (v : zV) : zL → zL
  | [] => [(i, v)]
  | q :: l => bif Nat.beq q.1 i then (i, v) :: z_ldrop i v l else bif z_clash q.1 q.2 i v then z_lput i v l else q :: z_lput i v l
theorem z_ldrop_mem {i : Nat} {v : zV} {q : Nat × zV} : ∀ {l : zL}, q ∈ z_ldrop i v l → q ∈ l ∧ z_clash q.1 q.2 i v = false
  | [], h => by simp [z_ldrop] at h
  | p :: l, h => by
    rw [z_ldrop] at h
    cases hb : z_clash p.1 p.2 i v with
    | true => rw [hb] at h; have := z_ldrop_mem (l := l) h; exact ⟨List.mem_cons_of_mem _ this.1, this.2⟩
    | false =>
      rw [hb] at h
      rcases List.mem_cons.mp h with rfl | h
      · exact ⟨List.mem_cons_self, hb⟩
      · have := z_ldrop_mem (l := l) h; exact ⟨List.mem_cons_of_mem _ this.1, this.2⟩
theorem z_lput_mem {i : Nat} {v : zV} {q : Nat × zV} : ∀ {l : zL}, q ∈ z_lput i v l → q = (i, v) ∨ (q ∈ l ∧ z_clash q.1 q.2 i v = false)
  | [], h => by simp [z_lput] at h; exact Or.inl h
  | p :: l, h => by
    rw [z_lput] at h
    cases hb : Nat.beq p.1 i with
    | true =>
      rw [hb] at h
      rcases List.mem_cons.mp h with rfl | h
      · exact Or.inl rfl
      · have := z_ldrop_mem h; exact Or.inr ⟨List.mem_cons_of_mem _ this.1, this.2⟩
    | false =>
      rw [hb] at h
      cases hc : z_clash p.1 p.2 i v with
      | true =>
        rw [hc] at h
        rcases z_lput_mem (l := l) h with h | h
        · exact Or.inl h
        · exact Or.inr ⟨List.mem_cons_of_mem _ h.1, h.2⟩
      | false =>
        rw [hc] at h
        rcases List.mem_cons.mp h with rfl | h
        · exact Or.inr ⟨List.mem_cons_self, hc⟩
        · rcases z_lput_mem (l := l) h with h | h
          · exact Or.inl h
          · exact Or.inr ⟨List.mem_cons_of_mem _ h.1, h.2⟩
-- numbers
def z_and (x y : Int) : Int := (Int32.ofInt x &&& Int32.ofInt y).toInt
def z_or (x y : Int) : Int := (Int32.ofInt x ||| Int32.ofInt y).toInt
def z_xor (x y : Int) : Int := (Int32.ofInt x ^^^ Int32.ofInt y).toInt
def z_andL (x y : Int) : Int := (Int64.ofInt x &&& Int64.ofInt y).toInt
def z_orL (x y : Int) : Int := (Int64.ofInt x ||| Int64.ofInt y).toInt
def z_ushr (x y : Int) : Int := ((Int32.ofInt x).toUInt32 >>> ((Int32.ofInt y).toUInt32 &&& Int32.toUInt32 31)).toInt32.toInt
def z_lushr (x y : Int) : Int := ((Int64.ofInt x).toUInt64 >>> ((Int32.ofInt y).toInt64.toUInt64 &&& Int64.toUInt64 63)).toInt64.toInt
def z_u (f : Int → Int) (i v : Int) : Int → Int := fun j => if j = i then v else f j
-- one instruction
def z_p1 : List Nat → Nat
  | [] => 0
  | a :: _ => a
def z_1 (st : List zV) (k : Int → List zV → Prop) : Prop := match st with
  | .inl x :: r => k x r
  | _ => False
def z_2 (st : List zV) (k : Int → Int → List zV → Prop) : Prop := match st with
  | .inl y :: .inl x :: r => k x y r
  | _ => False
def z_L1 (st : List zV) (k : Int → List zV → Prop) : Prop := match st with
  | .inr (.inl x) :: r => k x r
  | _ => False
def z_L2 (st : List zV) (k : Int → Int → List zV → Prop) : Prop := match st with
  | .inr (.inl y) :: .inr (.inl x) :: r => k x y r
  | _ => False
def z_LI (st : List zV) (k : Int → Int → List zV → Prop) : Prop := match st with
  | .inl y :: .inr (.inl x) :: r => k x y r
  | _ => False
def z_B (op : ClassFile.Cond) (x y : Int) (a b : Prop) : Prop := match op with
  | .eq => (x = y → a) ∧ (¬ x = y → b)
  | .ne => (¬ x = y → a) ∧ (x = y → b)
  | .lt => (x < y → a) ∧ (y ≤ x → b)
  | .ge => (y ≤ x → a) ∧ (x < y → b)
  | .gt => (y < x → a) ∧ (x ≤ y → b)
  | .le => (x ≤ y → a) ∧ (y < x → b)
def z_swl (K : Nat → Prop) (x : Int) : Int → List Nat → Prop
  | _, [] => True
  | lo, t :: ts => (x = lo → K t) ∧ z_swl K x (lo + 1) ts
def z_sw (K : Nat → Prop) (x lo hi : Int) : List Nat → Prop
  | [] => False
  | d :: ts => ((x < lo ∨ hi < x) → K d) ∧ z_swl K x lo ts
def z_lk (K : Nat → Prop) (x : Int) (d : Nat) : List (Int × Int) → List Nat → Prop
  | [], _ => K d
  | _ :: _, [] => False
  | q :: r, t :: ts => (x = q.1 → K t) ∧ (¬ x = q.1 → z_lk K x d r ts)
def z_i (tb : List (Nat × zI)) (ft : List (Nat × (Nat × (Nat × Nat)))) (ct : List (Nat × Int) × List (Nat × Int)) (sc : Option (Nat × (Int → Int))) (Rr : Option zV → zW → Prop) (G K : zG) (pc : Nat) (ls : zL) (st : List zV) (ws : zW) (nx : Nat) (ps : List Nat) : Instr → Prop
  | .iconst n => K nx ls (.inl n :: st) ws
  | .bipush n => K nx ls (.inl n :: st) ws
  | .sipush n => K nx ls (.inl n :: st) ws
  | .lconst _ => match ps with
    | 0 :: _ => K nx ls (.inr (.inl 0) :: st) ws
    | _ => K nx ls (.inr (.inl 1) :: st) ws
  | .ldc i => match z_a ct.1 i with
    | some v => K nx ls (.inl v :: st) ws
    | none => False
  | .ldc_w i => match z_a ct.1 i with
    | some v => K nx ls (.inl v :: st) ws
    | none => False
  | .ldc2_w i => match z_a ct.2 i with
    | some v => K nx ls (.inr (.inl v) :: st) ws
    | none => False
  | .iload_n _ => match z_a ls (z_p1 ps) with
    | some (.inl x) => K nx ls (.inl x :: st) ws
    | _ => False
  | .iload _ => match z_a ls (z_p1 ps) with
    | some (.inl x) => K nx ls (.inl x :: st) ws
    | _ => False
  | .lload_n _ => match z_a ls (z_p1 ps) with
    | some (.inr (.inl x)) => K nx ls (.inr (.inl x) :: st) ws
    | _ => False
  | .lload _ => match z_a ls (z_p1 ps) with
    | some (.inr (.inl x)) => K nx ls (.inr (.inl x) :: st) ws
    | _ => False
  | .aload_n _ => match z_a ls (z_p1 ps) with
    | some (.inr (.inr x)) => K nx ls (.inr (.inr x) :: st) ws
    | _ => False
  | .aload _ => match z_a ls (z_p1 ps) with
    | some (.inr (.inr x)) => K nx ls (.inr (.inr x) :: st) ws
    | _ => False
  | .istore_n _ => z_1 st fun x r => K nx (z_lput (z_p1 ps) (.inl x) ls) r ws
  | .istore _ => z_1 st fun x r => K nx (z_lput (z_p1 ps) (.inl x) ls) r ws
  | .lstore_n _ => z_L1 st fun x r => K nx (z_lput (z_p1 ps) (.inr (.inl x)) ls) r ws
  | .lstore _ => z_L1 st fun x r => K nx (z_lput (z_p1 ps) (.inr (.inl x)) ls) r ws
  | .astore_n _ => match st with
    | .inr (.inr x) :: r => K nx (z_lput (z_p1 ps) (.inr (.inr x)) ls) r ws
    | _ => False
  | .astore _ => match st with
    | .inr (.inr x) :: r => K nx (z_lput (z_p1 ps) (.inr (.inr x)) ls) r ws
    | _ => False
  | .iinc _ d => match z_a ls (z_p1 ps) with
    | some (.inl x) => K nx (z_lput (z_p1 ps) (.inl (x + d)) ls) st ws
    | _ => False
  | .iadd => z_2 st fun x y r => K nx ls (.inl (x + y) :: r) ws
  | .isub => z_2 st fun x y r => K nx ls (.inl (x - y) :: r) ws
  | .imul => z_2 st fun x y r => K nx ls (.inl (x * y) :: r) ws
  | .iand => z_2 st fun x y r => K nx ls (.inl (z_and x y) :: r) ws
  | .ior => z_2 st fun x y r => K nx ls (.inl (z_or x y) :: r) ws
  | .ixor => z_2 st fun x y r => K nx ls (.inl (z_xor x y) :: r) ws
  | .idiv => z_2 st fun x y r => ((0 ≤ x ∧ x ≤ 2147483647) ∧ (0 < y ∧ y ≤ 2147483647)) ∧ K nx ls (.inl (x / y) :: r) ws
  | .irem => z_2 st fun x y r => ((0 ≤ x ∧ x ≤ 2147483647) ∧ (0 < y ∧ y ≤ 2147483647)) ∧ K nx ls (.inl (x % y) :: r) ws
  | .ineg => z_1 st fun x r => K nx ls (.inl (-x) :: r) ws
  | .ishl => z_2 st fun x y r => (0 ≤ y ∧ y < 32) ∧ K nx ls (.inl (x * 2 ^ y.toNat) :: r) ws
  | .ishr => z_2 st fun x y r => ((-2147483648 ≤ x ∧ x ≤ 2147483647) ∧ (0 ≤ y ∧ y < 32)) ∧ K nx ls (.inl (x / 2 ^ y.toNat) :: r) ws
  | .iushr => z_2 st fun x y r => K nx ls (.inl (z_ushr x y) :: r) ws
  | .ladd => z_L2 st fun x y r => K nx ls (.inr (.inl (x + y)) :: r) ws
  | .lsub => z_L2 st fun x y r => K nx ls (.inr (.inl (x - y)) :: r) ws
  | .lmul => z_L2 st fun x y r => K nx ls (.inr (.inl (x * y)) :: r) ws
  | .land => z_L2 st fun x y r => K nx ls (.inr (.inl (z_andL x y)) :: r) ws
  | .lor => z_L2 st fun x y r => K nx ls (.inr (.inl (z_orL x y)) :: r) ws
  | .ldiv => z_L2 st fun x y r => ((0 ≤ x ∧ x ≤ 9223372036854775807) ∧ (0 < y ∧ y ≤ 9223372036854775807)) ∧ K nx ls (.inr (.inl (x / y)) :: r) ws
  | .lrem => z_L2 st fun x y r => ((0 ≤ x ∧ x ≤ 9223372036854775807) ∧ (0 < y ∧ y ≤ 9223372036854775807)) ∧ K nx ls (.inr (.inl (x % y)) :: r) ws
  | .lshl => z_LI st fun x y r => (0 ≤ y ∧ y < 64) ∧ K nx ls (.inr (.inl ((x * 2 ^ y.toNat).bmod 18446744073709551616)) :: r) ws
  | .lshr => z_LI st fun x y r => ((-9223372036854775808 ≤ x ∧ x ≤ 9223372036854775807) ∧ (0 ≤ y ∧ y < 64)) ∧ K nx ls (.inr (.inl (x / 2 ^ y.toNat)) :: r) ws
  | .lushr => z_LI st fun x y r => K nx ls (.inr (.inl (z_lushr x y)) :: r) ws
  | .i2l => z_1 st fun x r => (-2147483648 ≤ x ∧ x ≤ 2147483647) ∧ K nx ls (.inr (.inl x) :: r) ws
  | .l2i => z_L1 st fun x r => K nx ls (.inl x :: r) ws
  | .i2s => z_1 st fun x r => K nx ls (.inl (x.bmod 65536) :: r) ws
  | .lcmp => z_L2 st fun x y r => ((-9223372036854775808 ≤ x ∧ x ≤ 9223372036854775807) ∧ (-9223372036854775808 ≤ y ∧ y ≤ 9223372036854775807)) ∧ match z_a tb nx with
    | some (.ifCond op _, (nx2, ps2)) => z_B op x y (K (z_p1 ps2) ls r ws) (K nx2 ls r ws)
    | _ => False
  | .dup => match st with
    | .inl x :: r => K nx ls (.inl x :: .inl x :: r) ws
    | .inr (.inr x) :: r => K nx ls (.inr (.inr x) :: .inr (.inr x) :: r) ws
    | _ => False
  | .pop => match st with
    | .inl _ :: r => K nx ls r ws
    | .inr (.inr _) :: r => K nx ls r ws
    | _ => False
  | .goto _ => K (z_p1 ps) ls st ws
  | .ifCond op _ => z_1 st fun x r => (-2147483648 ≤ x ∧ x ≤ 2147483647) ∧ z_B op x 0 (K (z_p1 ps) ls r ws) (K nx ls r ws)
  | .if_icmp op _ => z_2 st fun x y r => ((-2147483648 ≤ x ∧ x ≤ 2147483647) ∧ (-2147483648 ≤ y ∧ y ≤ 2147483647)) ∧ z_B op x y (K (z_p1 ps) ls r ws) (K nx ls r ws)
  | .getfield i => match st with
    | .inr (.inr q) :: r => match z_g ws q with
      | some (.inl o) => match z_a ft i with
        | some t => bif Nat.beq o.1 t.1 then (match z_g o.2 t.2.1 with
          | some v => K nx ls (v :: r) ws
          | none => False) else False
        | none => False
      | _ => False
    | _ => False
  | .putfield i => match st with
    | .inl x :: .inr (.inr q) :: r => match z_g ws q with
      | some (.inl o) => match z_a ft i with
        | some t => bif Nat.beq o.1 t.1 then (bif Nat.blt t.2.1 o.2.length then (match t.2.2 with
          | 1 => K nx ls r (z_s ws q (.inl (o.1, z_s o.2 t.2.1 (.inl x))))
          | 2 => (x = 0 ∨ x = 1) ∧ K nx ls r (z_s ws q (.inl (o.1, z_s o.2 t.2.1 (.inl x))))
          | _ => False) else False) else False
        | none => False
      | _ => False
    | _ => False
  | .iaload => match st with
    | .inl i :: .inr (.inr q) :: r => match z_g ws q with
      | some (.inr (_, (n, .inl f))) => (0 ≤ i ∧ i < (n : Int) ∧ i ≤ 2147483647) ∧ K nx ls (.inl (f i) :: r) ws
      | some _ => False
      | none => match sc with
        | some b => bif Nat.beq q 9999 then ((0 ≤ i ∧ i < (b.1 : Int) ∧ i ≤ 2147483647) ∧ K nx ls (.inl (b.2 i) :: r) ws) else False
        | none => False
    | _ => False
  | .laload => match st with
    | .inl i :: .inr (.inr q) :: r => match z_g ws q with
      | some (.inr (_, (n, .inr (.inl f)))) => (0 ≤ i ∧ i < (n : Int) ∧ i ≤ 2147483647) ∧ K nx ls (.inr (.inl (f i)) :: r) ws
      | _ => False
    | _ => False
  | .aaload => match st with
    | .inl i :: .inr (.inr q) :: r => match z_g ws q with
      | some (.inr (t, (n, .inr (.inr f)))) => bif Nat.ble t 1 then ((0 ≤ i ∧ i < (n : Int) ∧ i ≤ 2147483647) ∧ K nx ls (.inr (.inr (f i)) :: r) ws) else False
      | _ => False
    | _ => False
  | .iastore => match st with
    | .inl v :: .inl i :: .inr (.inr q) :: r => match z_g ws q with
      | some (.inr (t, (n, .inl f))) => (0 ≤ i ∧ i < (n : Int) ∧ i ≤ 2147483647) ∧ K nx ls r (z_s ws q (.inr (t, (n, .inl (z_u f i v)))))
      | _ => False
    | _ => False
  | .lastore => match st with
    | .inr (.inl v) :: .inl i :: .inr (.inr q) :: r => match z_g ws q with
      | some (.inr (t, (n, .inr (.inl f)))) => (0 ≤ i ∧ i < (n : Int) ∧ i ≤ 2147483647) ∧ K nx ls r (z_s ws q (.inr (t, (n, .inr (.inl (z_u f i v))))))
      | _ => False
    | _ => False
  | .arraylength => match st with
    | .inr (.inr q) :: r => match z_g ws q with
      | some _ => False
      | none => match sc with
        | some b => bif Nat.beq q 9999 then K nx ls (.inl (b.1 : Int) :: r) ws else False
        | none => False
    | _ => False
  | .ireturn => match st with
    | [.inl x] => Rr (some (.inl x)) ws
    | _ => False
  | .lreturn => match st with
    | [.inr (.inl x)] => Rr (some (.inr (.inl x))) ws
    | _ => False
  | .return_ => match st with
    | [] => Rr none ws
    | _ => False
  | .tableswitch _ lo hi _ => z_1 st fun x r => (-2147483648 ≤ x ∧ x ≤ 2147483647) ∧ z_sw (fun t => K t ls r ws) x lo hi ps
  | .lookupswitch _ prs => z_1 st fun x r => (-2147483648 ≤ x ∧ x ≤ 2147483647) ∧ match ps with
    | d :: ts => z_lk (fun t => K t ls r ws) x d prs.toList ts
    | [] => False
  | .invokevirtual _ => G pc ls st ws
  | .invokestatic _ => G pc ls st ws
  | .invokespecial _ => G pc ls st ws
  | _ => False
def z_in (k : Nat) : List Nat → Bool
  | [] => false
  | a :: l => Nat.beq a k || z_in k l
def z_run (tb : List (Nat × zI)) (ft : List (Nat × (Nat × (Nat × Nat)))) (ct : List (Nat × Int) × List (Nat × Int)) (sc : Option (Nat × (Int → Int))) (Rr : Option zV → zW → Prop) (stops : List Nat) (G : zG) : Nat → zG
  | 0, pc, ls, st, ws => G pc ls st ws
  | n + 1, pc, ls, st, ws => match z_a tb pc with
    | none => False
    | some q => z_i tb ft ct sc Rr G (fun pc' ls' st' ws' => bif z_in pc' stops then G pc' ls' st' ws' else z_run tb ft ct sc Rr stops G n pc' ls' st' ws') pc ls st ws q.2.1 q.2.2 q.1
-- the table of a method's instructions against its bytes
def z_chk (pc nL len : Nat) (ps : List Nat) : Instr → Bool
  | .iconst _ => Nat.beq len 1
  | .bipush n => Nat.beq len 2 && (decide (-128 ≤ n) && decide (n ≤ 127))
  | .sipush n => Nat.beq len 3 && (decide (-32768 ≤ n) && decide (n ≤ 32767))
  | .lconst n => Nat.beq len 1 && (Nat.beq (n : Nat) (z_p1 ps) && !ps.isEmpty)
  | .iload_n k => Nat.beq len 1 && Nat.beq (k : Nat) (z_p1 ps)
  | .lload_n k => Nat.beq len 1 && Nat.beq (k : Nat) (z_p1 ps)
  | .aload_n k => Nat.beq len 1 && Nat.beq (k : Nat) (z_p1 ps)
  | .iload k => Nat.beq len 2 && Nat.beq k (z_p1 ps)
  | .lload k => Nat.beq len 2 && Nat.beq k (z_p1 ps)
  | .aload k => Nat.beq len 2 && Nat.beq k (z_p1 ps)
  | .istore_n k => Nat.beq len 1 && (Nat.beq (k : Nat) (z_p1 ps) && Nat.blt (z_p1 ps) nL)
  | .astore_n k => Nat.beq len 1 && (Nat.beq (k : Nat) (z_p1 ps) && Nat.blt (z_p1 ps) nL)
  | .lstore_n k => Nat.beq len 1 && (Nat.beq (k : Nat) (z_p1 ps) && Nat.blt (z_p1 ps + 1) nL)
  | .istore k => Nat.beq len 2 && (Nat.beq k (z_p1 ps) && Nat.blt (z_p1 ps) nL)
  | .astore k => Nat.beq len 2 && (Nat.beq k (z_p1 ps) && Nat.blt (z_p1 ps) nL)
  | .lstore k => Nat.beq len 2 && (Nat.beq k (z_p1 ps) && Nat.blt (z_p1 ps + 1) nL)
  | .iinc k _ => Nat.beq len 3 && (Nat.beq k (z_p1 ps) && Nat.blt (z_p1 ps) nL)
  | .goto off => Nat.beq len 3 && decide ((pc : Int) + off = (z_p1 ps : Int))
  | .ifCond _ off => Nat.beq len 3 && decide ((pc : Int) + off = (z_p1 ps : Int))
  | .if_icmp _ off => Nat.beq len 3 && decide ((pc : Int) + off = (z_p1 ps : Int))
  | .tableswitch d lo hi offs => decide (ps.map (fun t : Nat => (t : Int)) = (d :: offs.toList).map (fun o => (pc : Int) + o)) && decide (hi = lo + (offs.size : Int) - 1)
  | .lookupswitch d prs => decide (ps.map (fun t : Nat => (t : Int)) = (d :: prs.toList.map (fun q => q.2)).map (fun o => (pc : Int) + o)) && (prs.toList.zip (prs.toList.drop 1)).all (fun q => decide (q.1.1 < q.2.1))
  | .ldc _ => Nat.beq len 2
  | .ldc_w _ => Nat.beq len 3
  | .ldc2_w _ => Nat.beq len 3
  | .getfield _ => Nat.beq len 3
  | .putfield _ => Nat.beq len 3
  | .invokevirtual _ => Nat.beq len 3
  | .invokestatic _ => Nat.beq len 3
  | .invokespecial _ => Nat.beq len 3
  | .new _ => Nat.beq len 3
  | .anewarray _ => Nat.beq len 3
  | .newarray _ => Nat.beq len 2
  | _ => Nat.beq len 1
def z_ent (cc : ByteArray) (nL : Nat) (q : Nat × zI) : Bool := match decode cc q.1 with
  | .ok (i, len) => decide (i = q.2.1) && (Nat.beq q.2.2.1 (q.1 + len) && z_chk q.1 nL len q.2.2.2 q.2.1)
  | .error _ => false
theorem z_ent_spec {cc : ByteArray} {nL : Nat} {tb : List (Nat × zI)} (h : tb.all (z_ent cc nL) = true) {pc : Nat} {q : zI} (hq : z_a tb pc = some q) : ∃ len, decode cc pc = .ok (q.1, len) ∧ q.2.1 = pc + len ∧ z_chk pc nL len q.2.2 q.1 = true := by
  have h1 := List.all_eq_true.mp h _ (z_a_mem hq)
  unfold z_ent at h1
  dsimp only at h1
  cases hd : decode cc pc with
  | error x => rw [hd] at h1; cases h1
  | ok r =>
    obtain ⟨i, len⟩ := r
    rw [hd] at h1
    simp only [Bool.and_eq_true, decide_eq_true_eq] at h1
    obtain ⟨rfl, h2, h3⟩ := h1
    exact ⟨len, rfl, Nat.eq_of_beq_eq_true h2, h3⟩
end
section
/-! WHAT THE ABSTRACT MACHINE SAYS OF THE MACHINE -/
def z_nest : List Cond := [Jvm.Cond.methodLinkNest "FarthestPays" (11 : Nat) ({ cls := "FarthestPays$Table", name := "<init>", desc := "()V" } : Jvm.MethodName) "FarthestPays", Jvm.Cond.methodLinkNest "FarthestPays$Table" (11 : Nat) ({ cls := "FarthestPays$Supper", name := "<init>", desc := "()V" } : Jvm.MethodName) "FarthestPays", Jvm.Cond.methodLinkNest "FarthestPays$Table" (20 : Nat) ({ cls := "FarthestPays$Company", name := "<init>", desc := "()V" } : Jvm.MethodName) "FarthestPays", Jvm.Cond.methodLinkNest "FarthestPays$Nights" (25 : Nat) ({ cls := "FarthestPays$Company", name := "<init>", desc := "()V" } : Jvm.MethodName) "FarthestPays", Jvm.Cond.fieldLinkNest "FarthestPays" (55 : Nat) "FarthestPays$Table" "supper" "LFarthestPays$Supper;" "FarthestPays", Jvm.Cond.fieldLinkNest "FarthestPays" (66 : Nat) "FarthestPays$Table" "company" "LFarthestPays$Company;" "FarthestPays", Jvm.Cond.fieldLinkNest "FarthestPays" (136 : Nat) "FarthestPays$Table" "nights" "LFarthestPays$Nights;" "FarthestPays", Jvm.Cond.methodLinkNest "FarthestPays" (25 : Nat) ({ cls := "FarthestPays$Tape", name := "<init>", desc := "()V" } : Jvm.MethodName) "FarthestPays", Jvm.Cond.methodLinkNest "FarthestPays" (32 : Nat) ({ cls := "FarthestPays$Supper", name := "<init>", desc := "()V" } : Jvm.MethodName) "FarthestPays", Jvm.Cond.methodLinkNest "FarthestPays" (39 : Nat) ({ cls := "FarthestPays$Company", name := "<init>", desc := "()V" } : Jvm.MethodName) "FarthestPays", Jvm.Cond.methodLinkNest "FarthestPays" (50 : Nat) ({ cls := "FarthestPays$Sheet", name := "<init>", desc := "()V" } : Jvm.MethodName) "FarthestPays", Jvm.Cond.methodLinkNest "FarthestPays$Supper" (15 : Nat) ({ cls := "FarthestPays", name := "isSum", desc := "(I)Z" } : Jvm.MethodName) "FarthestPays"]
def z_N (U : State) : Prop := ∀ w ∈ z_nest, va_Nw w U
theorem z_N_same {u U : State} (h : u.vm = U.vm) (hN : z_N u) : z_N U := by
  intro w hw
  have h1 := hN w hw
  simp only [z_nest, List.mem_cons, List.not_mem_nil, or_false] at hw
  rcases hw with rfl | rfl | rfl | rfl | rfl | rfl | rfl | rfl | rfl | rfl | rfl | rfl <;> exact va_Nw.same rfl h h1
theorem z_N_warm {s U : State} (hW : s.WarmedH U.vm) (hN : z_N s) : z_N U := by
  intro w hw
  have h1 := hN w hw
  simp only [z_nest, List.mem_cons, List.not_mem_nil, or_false] at hw
  rcases hw with rfl | rfl | rfl | rfl | rfl | rfl | rfl | rfl | rfl | rfl | rfl | rfl <;> first | exact va_Nw.warmF hW h1 | exact va_Nw.warmM hW h1

def z_v (ad : Nat → Nat) : zV → Value
  | .inl x => .int (Int32.ofInt x)
  | .inr (.inl x) => .long (Int64.ofInt x)
  | .inr (.inr k) => .ref (ad k)
def z_e (ad : Nat → Nat) (cA : Nat → ClassId) : zC → va_E
  | .inl o => .inr (o.1, o.2.map (z_v ad))
  | .inr (_, (n, .inl f)) => .inl (cA 0, (n, .inl (fun j : Nat => Int32.ofInt (f (j : Int)))))
  | .inr (_, (n, .inr (.inl f))) => .inl (cA 1, (n, .inr (.inl (fun j : Nat => Int64.ofInt (f (j : Int))))))
  | .inr (t, (n, .inr (.inr f))) => .inl (cA (2 + t), (n, .inr (.inr (.inr (.inr (fun j : Nat => some (ad (f (j : Int)))))))))
def z_w (ad : Nat → Nat) (cA : Nat → ClassId) (ws : zW) : va_W := ws.mapIdx (fun k c => (ad k, z_e ad cA c))
def z_t (cA : Nat → ClassId) : List (ClassId × FieldType) := [(cA 0, .int), (cA 1, .long), (cA 2, .object RX0), (cA 3, .object RX2)]
def z_l (ad : Nat → Nat) (ls : zL) : List (Nat × Value) := ls.map (fun q => (q.1, z_v ad q.2))
theorem z_w_get (ad : Nat → Nat) (cA : Nat → ClassId) (ws : zW) (k : Nat) : (z_w ad cA ws)[k]? = (ws[k]?).map (fun c => (ad k, z_e ad cA c)) := by
  simp [z_w, List.getElem?_mapIdx]
theorem z_w_at {ad : Nat → Nat} {cA : Nat → ClassId} {ws : zW} {k : Nat} {c : zC} (h : z_g ws k = some c) : (z_w ad cA ws)[k]? = some (ad k, z_e ad cA c) := by
  rw [z_w_get, ← z_g_eq, h]; rfl
theorem z_w_set (ad : Nat → Nat) (cA : Nat → ClassId) (ws : zW) (k : Nat) (c : zC) : z_w ad cA (z_s ws k c) = (z_w ad cA ws).set k (ad k, z_e ad cA c) := by
  rw [z_s_eq]; unfold z_w; rw [List.mapIdx_set]
theorem z_w_len (ad : Nat → Nat) (cA : Nat → ClassId) (ws : zW) : (z_w ad cA ws).length = ws.length := by simp [z_w]
theorem z_s_len {α : Type} (ws : List α) (k : Nat) (c : α) : (z_s ws k c).length = ws.length := by rw [z_s_eq]; simp
theorem z_D {ad : Nat → Nat} {cA : Nat → ClassId} {A : Nat → Prop} {ws : zW} {n0 : Nat} (hl : ws.length = n0) (hi : ∀ i j : Nat, i < n0 → j < n0 → ad i = ad j → i = j) (hA : ∀ k : Nat, k < n0 → A (ad k)) : va_D A (z_w ad cA ws) := by
  have key : ∀ (k : Nat) (q : Nat × va_E), (z_w ad cA ws)[k]? = some q → k < n0 ∧ q.1 = ad k := by
    intro k q hq
    rw [z_w_get] at hq
    cases hc : ws[k]? with
    | none => rw [hc] at hq; cases hq
    | some c =>
      rw [hc] at hq
      have hk := (List.getElem?_eq_some_iff.mp hc).1
      have := Option.some.inj hq
      subst this
      exact ⟨hl ▸ hk, rfl⟩
  refine ⟨fun i j p q hp hq h => ?_, fun k q hq => ?_⟩
  · obtain ⟨a1, a2⟩ := key i p hp
    obtain ⟨b1, b2⟩ := key j q hq
    exact hi i j a1 b1 (by rw [← a2, ← b2]; exact h)
  · obtain ⟨a1, a2⟩ := key k q hq
    rw [a2]; exact hA k a1
theorem z_has_at {ad : Nat → Nat} {ls : zL} {ls' : Array Slot} {nL i : Nat} {v : zV} (h : lv_has ls' nL (z_l ad ls)) (ha : z_a ls i = some v) : ls'[i]? = some (.val (z_v ad v)) :=
  h.2.2 (i, z_v ad v) (List.mem_map.mpr ⟨(i, v), z_a_mem ha, rfl⟩)
theorem z_has_sub {ls' : Array Slot} {nL : Nat} {l l' : List (Nat × Value)} (hs : ∀ q ∈ l', q ∈ l) (h : lv_has ls' nL l) : lv_has ls' nL l' := ⟨h.1, h.2.1, fun q hq => h.2.2 q (hs q hq)⟩
theorem z_cat (ad : Nat → Nat) (v : zV) : ((z_v ad v).category == 2) = z_isL v := by
  rcases v with x | x | x <;> rfl
theorem z_beq (a b : Nat) : (a == b) = Nat.beq a b := by
  rw [Bool.eq_iff_iff]
  constructor
  · intro h; rw [eq_of_beq h]; exact Nat.beq_refl b
  · intro h; rw [Nat.eq_of_beq_eq_true h]; exact beq_self_eq_true b
theorem z_put1 {ad : Nat → Nat} {ls : zL} {i : Nat} {v : zV} (hv : z_isL v = false) : ∀ q ∈ z_l ad (z_lput i v ls), q ∈ (i, z_v ad v) :: (z_l ad ls).filter (fun q => !(q.1 == i) && !(q.1 + 1 == i && q.2.category == 2)) := by
  intro q hq
  obtain ⟨u, hu, rfl⟩ := List.mem_map.mp hq
  rcases z_lput_mem hu with rfl | ⟨h1, h2⟩
  · exact List.mem_cons_self
  · refine List.mem_cons_of_mem _ (List.mem_filter.mpr ⟨List.mem_map.mpr ⟨u, h1, rfl⟩, ?_⟩)
    dsimp only
    rw [z_cat]
    simp only [z_clash, hv, Bool.or_eq_false_iff, Bool.false_and, and_true] at h2
    have e1 : (u.1 == i) = false := by rw [z_beq]; exact h2.1
    have e2 : (u.1 + 1 == i && z_isL u.2) = false := by rw [z_beq]; exact h2.2
    rw [e1, e2]; rfl
theorem z_put2 {ad : Nat → Nat} {ls : zL} {i : Nat} {v : zV} (hv : z_isL v = true) : ∀ q ∈ z_l ad (z_lput i v ls), q ∈ (i, z_v ad v) :: (z_l ad ls).filter (fun q => !(q.1 == i) && (!(q.1 == i + 1) && !(q.1 + 1 == i && q.2.category == 2))) := by
  intro q hq
  obtain ⟨u, hu, rfl⟩ := List.mem_map.mp hq
  rcases z_lput_mem hu with rfl | ⟨h1, h2⟩
  · exact List.mem_cons_self
  · refine List.mem_cons_of_mem _ (List.mem_filter.mpr ⟨List.mem_map.mpr ⟨u, h1, rfl⟩, ?_⟩)
    dsimp only
    rw [z_cat]
    simp only [z_clash, hv, Bool.or_eq_false_iff, Bool.true_and] at h2
    have e1 : (u.1 == i) = false := by rw [z_beq]; exact h2.1
    have e2 : (u.1 + 1 == i && z_isL u.2) = false := by rw [z_beq]; exact h2.2.1
    have e3 : (u.1 == i + 1) = false := by rw [z_beq]; exact h2.2.2
    rw [e1, e2, e3]; rfl
-- numbers
theorem z_R {x : Int} (h : -2147483648 ≤ x ∧ x ≤ 2147483647) : (Int32.ofInt x).toInt = x := Int32.toInt_ofInt_of_le (by omega) (by omega)
theorem z_Q {x : Int} (h : -9223372036854775808 ≤ x ∧ x ≤ 9223372036854775807) : (Int64.ofInt x).toInt = x := Int64.toInt_ofInt_of_le (by omega) (by omega)
theorem z_req {x y : Int} (hx : -2147483648 ≤ x ∧ x ≤ 2147483647) (hy : -2147483648 ≤ y ∧ y ≤ 2147483647) : Int32.ofInt x = Int32.ofInt y ↔ x = y := by
  rw [← Int32.toInt_inj, z_R hx, z_R hy]
theorem z_rlt {x y : Int} (hx : -2147483648 ≤ x ∧ x ≤ 2147483647) (hy : -2147483648 ≤ y ∧ y ≤ 2147483647) : Int32.ofInt x < Int32.ofInt y ↔ x < y := by
  rw [Int32.lt_iff_toInt_lt, z_R hx, z_R hy]
theorem z_rle {x y : Int} (hx : -2147483648 ≤ x ∧ x ≤ 2147483647) (hy : -2147483648 ≤ y ∧ y ≤ 2147483647) : Int32.ofInt x ≤ Int32.ofInt y ↔ x ≤ y := by
  rw [Int32.le_iff_toInt_le, z_R hx, z_R hy]
theorem z_vin {i : Int} {n : Nat} (h : 0 ≤ i ∧ i < (n : Int) ∧ i ≤ 2147483647) : vp_in (Int32.ofInt i) n := by
  rw [vp_in_iff, z_R (by omega)]; exact ⟨h.1, h.2.1⟩
theorem z_cl {i : Int} {n : Nat} (h : 0 ≤ i ∧ i < (n : Int) ∧ i ≤ 2147483647) : (((Int32.ofInt i).toNatClampNeg : Nat) : Int) = i := by
  have : (Int32.ofInt i).toNatClampNeg = (Int32.ofInt i).toInt.toNat := rfl
  rw [this, z_R (by omega)]; exact Int.toNat_of_nonneg h.1
theorem z_upd {f : Int → Int} {i v : Int} {n : Nat} (h : 0 ≤ i ∧ i < (n : Int) ∧ i ≤ 2147483647) : upd (fun j : Nat => Int32.ofInt (f (j : Int))) (Int32.ofInt i).toNatClampNeg (Int32.ofInt v) = (fun j : Nat => Int32.ofInt (z_u f i v (j : Int))) := by
  funext j
  have e := z_cl h
  unfold upd z_u
  by_cases hj : j = (Int32.ofInt i).toNatClampNeg
  · rw [if_pos hj, if_pos (by rw [hj]; exact e)]
  · rw [if_neg hj, if_neg (fun q => hj (by omega))]
theorem z_updL {f : Int → Int} {i v : Int} {n : Nat} (h : 0 ≤ i ∧ i < (n : Int) ∧ i ≤ 2147483647) : vp_updL (fun j : Nat => Int64.ofInt (f (j : Int))) (Int32.ofInt i).toNatClampNeg (Int64.ofInt v) = (fun j : Nat => Int64.ofInt (z_u f i v (j : Int))) := by
  funext j
  have e := z_cl h
  unfold vp_updL z_u
  by_cases hj : j = (Int32.ofInt i).toNatClampNeg
  · rw [if_pos hj, if_pos (by rw [hj]; exact e)]
  · rw [if_neg hj, if_neg (fun q => hj (by omega))]
theorem z_div {x y : Int} (hx : 0 ≤ x ∧ x ≤ 2147483647) (hy : 0 < y ∧ y ≤ 2147483647) : Int32.ofInt x / Int32.ofInt y = Int32.ofInt (x / y) := by
  have h0 : (0 : Int) ≤ x / y := Int.ediv_nonneg hx.1 (by omega)
  have h1 : x / y ≤ x := Int.ediv_le_self _ hx.1
  have hne : Int32.ofInt y ≠ -1 := fun q => by
    have := congrArg Int32.toInt q
    rw [z_R (by omega)] at this
    have e : (-1 : Int32).toInt = -1 := by decide
    omega
  rw [← Int32.toInt_inj, Int32.toInt_div_of_ne_right _ _ hne, z_R (by omega), z_R (by omega), z_R (by omega), Int.tdiv_eq_ediv_of_nonneg hx.1]
theorem z_mod {x y : Int} (hx : 0 ≤ x ∧ x ≤ 2147483647) (hy : 0 < y ∧ y ≤ 2147483647) : Int32.ofInt x - Int32.ofInt x / Int32.ofInt y * Int32.ofInt y = Int32.ofInt (x % y) := by
  rw [z_div hx hy, ← Int32.ofInt_mul, ← Int32.ofInt_sub]
  congr 1
  have := Int.mul_ediv_add_emod x y
  rw [Int.mul_comm] at this
  omega
theorem z_divL {x y : Int} (hx : 0 ≤ x ∧ x ≤ 9223372036854775807) (hy : 0 < y ∧ y ≤ 9223372036854775807) : Int64.ofInt x / Int64.ofInt y = Int64.ofInt (x / y) := by
  have h0 : (0 : Int) ≤ x / y := Int.ediv_nonneg hx.1 (by omega)
  have h1 : x / y ≤ x := Int.ediv_le_self _ hx.1
  have hne : Int64.ofInt y ≠ -1 := fun q => by
    have := congrArg Int64.toInt q
    rw [z_Q (by omega)] at this
    have e : (-1 : Int64).toInt = -1 := by decide
    omega
  rw [← Int64.toInt_inj, Int64.toInt_div_of_ne_right _ _ hne, z_Q (by omega), z_Q (by omega), z_Q (by omega), Int.tdiv_eq_ediv_of_nonneg hx.1]
theorem z_modL {x y : Int} (hx : 0 ≤ x ∧ x ≤ 9223372036854775807) (hy : 0 < y ∧ y ≤ 9223372036854775807) : Int64.ofInt x - Int64.ofInt x / Int64.ofInt y * Int64.ofInt y = Int64.ofInt (x % y) := by
  rw [z_divL hx hy, ← Int64.ofInt_mul, ← Int64.ofInt_sub]
  congr 1
  have := Int.mul_ediv_add_emod x y
  rw [Int.mul_comm] at this
  omega
theorem z_nat {y : Int} (h : 0 ≤ y) : ∃ k : Nat, y = (k : Int) := ⟨y.toNat, (Int.toNat_of_nonneg h).symm⟩
theorem z_sml : ∀ k, k < 32 → ((Int32.ofInt (k : Nat) &&& 31).toBitVec.smod 32) = BitVec.ofNat 32 k := by decide +kernel
theorem z_smL : ∀ k, k < 64 → (((Int32.ofInt (k : Nat)).toInt64 &&& 63).toBitVec.smod 64) = BitVec.ofNat 64 k := by decide +kernel
theorem z_shl {x y : Int} (hy : 0 ≤ y ∧ y < 32) : Int32.ofInt x <<< (Int32.ofInt y &&& 31) = Int32.ofInt (x * 2 ^ y.toNat) := by
  obtain ⟨k, rfl⟩ := z_nat hy.1
  have hk : k < 32 := by omega
  apply Int32.toBitVec_inj.mp
  rw [Int32.toBitVec_shiftLeft, z_sml k hk]
  rw [Int32.ofInt_mul]
  rw [Int32.toBitVec_mul]
  have e2 : (Int32.ofInt (2 ^ (k : Int).toNat)).toBitVec = BitVec.twoPow 32 k := by
    rw [Int.toNat_natCast]
    clear hy
    revert hk; revert k; decide +kernel
  rw [e2, BitVec.mul_twoPow_eq_shiftLeft]
  rw [BitVec.shiftLeft_eq', BitVec.toNat_ofNat, Nat.mod_eq_of_lt (by omega)]
theorem z_shlL {x y : Int} (hy : 0 ≤ y ∧ y < 64) : Int64.ofInt x <<< ((Int32.ofInt y).toInt64 &&& 63) = Int64.ofInt ((x * 2 ^ y.toNat).bmod 18446744073709551616) := by
  obtain ⟨k, rfl⟩ := z_nat hy.1
  have hk : k < 64 := by omega
  have e0 : Int64.ofInt ((x * 2 ^ (k : Int).toNat).bmod 18446744073709551616) = Int64.ofInt (x * 2 ^ (k : Int).toNat) := by
    rw [← Int64.toInt_inj, Int64.toInt_ofInt, Int64.toInt_ofInt]
    exact Int.bmod_bmod
  rw [e0]
  apply Int64.toBitVec_inj.mp
  rw [Int64.toBitVec_shiftLeft, z_smL k hk]
  rw [Int64.ofInt_mul]
  rw [Int64.toBitVec_mul]
  have e2 : (Int64.ofInt (2 ^ (k : Int).toNat)).toBitVec = BitVec.twoPow 64 k := by
    rw [Int.toNat_natCast]
    clear hy e0
    revert hk; revert k; decide +kernel
  rw [e2, BitVec.mul_twoPow_eq_shiftLeft]
  rw [BitVec.shiftLeft_eq', BitVec.toNat_ofNat, Nat.mod_eq_of_lt (by omega)]
theorem z_shr {x y : Int} (hx : -2147483648 ≤ x ∧ x ≤ 2147483647) (hy : 0 ≤ y ∧ y < 32) : Int32.ofInt x >>> (Int32.ofInt y &&& 31) = Int32.ofInt (x / 2 ^ y.toNat) := by
  obtain ⟨k, rfl⟩ := z_nat hy.1
  have hk : k < 32 := by omega
  apply Int32.toInt_inj.mp
  have h1 : (Int32.ofInt x >>> (Int32.ofInt (k : Int) &&& 31)).toInt = (Int32.ofInt x).toInt >>> k := by
    apply pk_shr
    have := z_sml k hk
    rw [this, BitVec.toNat_ofNat, Nat.mod_eq_of_lt (by omega)]
  rw [h1, z_R hx, Int.toNat_natCast, Int.shiftRight_eq_div_pow]
  have hp : (0 : Int) < 2 ^ k := by exact Int.pow_pos (by omega)
  have b1 : x / 2 ^ k ≤ 2147483647 := by
    by_cases h0 : 0 ≤ x
    · have := Int.ediv_le_self (2 ^ k : Int) h0; omega
    · have := Int.ediv_neg_of_neg_of_pos (by omega : x < 0) hp; omega
  have b2 : -2147483648 ≤ x / 2 ^ k := by
    have := Int.le_ediv_of_mul_le hp (a := -2147483648) (b := x) (by
      have : (1 : Int) ≤ 2 ^ k := hp
      have h3 : (-2147483648 : Int) * 2 ^ k ≤ -2147483648 * 1 := Int.mul_le_mul_of_nonpos_left (by omega) this
      omega)
    exact this
  rw [z_R ⟨b2, b1⟩, Int.natCast_pow]
  rfl
theorem z_shrL {x y : Int} (hx : -9223372036854775808 ≤ x ∧ x ≤ 9223372036854775807) (hy : 0 ≤ y ∧ y < 64) : Int64.ofInt x >>> ((Int32.ofInt y).toInt64 &&& 63) = Int64.ofInt (x / 2 ^ y.toNat) := by
  obtain ⟨k, rfl⟩ := z_nat hy.1
  have hk : k < 64 := by omega
  apply Int64.toInt_inj.mp
  have h1 : (Int64.ofInt x >>> ((Int32.ofInt (k : Int)).toInt64 &&& 63)).toInt = (Int64.ofInt x).toInt >>> k := by
    show ((Int64.ofInt x).toBitVec.sshiftRight' _).toInt = _
    rw [z_smL k hk]
    rw [BitVec.sshiftRight_eq', BitVec.toInt_sshiftRight, BitVec.toNat_ofNat, Nat.mod_eq_of_lt (by omega)]
    rfl
  rw [h1, z_Q hx, Int.toNat_natCast, Int.shiftRight_eq_div_pow]
  have hp : (0 : Int) < 2 ^ k := by exact Int.pow_pos (by omega)
  have b1 : x / 2 ^ k ≤ 9223372036854775807 := by
    by_cases h0 : 0 ≤ x
    · have := Int.ediv_le_self (2 ^ k : Int) h0; omega
    · have := Int.ediv_neg_of_neg_of_pos (by omega : x < 0) hp; omega
  have b2 : -9223372036854775808 ≤ x / 2 ^ k := by
    have := Int.le_ediv_of_mul_le hp (a := -9223372036854775808) (b := x) (by
      have : (1 : Int) ≤ 2 ^ k := hp
      have h3 : (-9223372036854775808 : Int) * 2 ^ k ≤ -9223372036854775808 * 1 := Int.mul_le_mul_of_nonpos_left (by omega) this
      omega)
    exact this
  rw [z_Q ⟨b2, b1⟩, Int.natCast_pow]
  rfl
theorem z_i2l {x : Int} (hx : -2147483648 ≤ x ∧ x ≤ 2147483647) : (Int32.ofInt x).toInt64 = Int64.ofInt x := by
  rw [← Int64.toInt_inj, Int32.toInt_toInt64, z_R hx, z_Q (by omega)]
theorem z_i2s (x : Int) : (Int32.ofInt x).toInt16.toInt32 = Int32.ofInt (x.bmod 65536) := by
  rw [Int32.toInt16_ofInt, ← Int32.ofInt_int16ToInt, Int16.toInt_ofInt]
theorem z_lcmp {x y : Int} (hx : -9223372036854775808 ≤ x ∧ x ≤ 9223372036854775807) (hy : -9223372036854775808 ≤ y ∧ y ≤ 9223372036854775807) : lg_cmp (Int64.ofInt x) (Int64.ofInt y) = Int32.ofInt (if x < y then -1 else if x = y then 0 else 1) := by
  have e1 : (Int64.ofInt x < Int64.ofInt y) ↔ x < y := by rw [Int64.lt_iff_toInt_lt, z_Q hx, z_Q hy]
  have e2 : (Int64.ofInt x = Int64.ofInt y) ↔ x = y := by rw [← Int64.toInt_inj, z_Q hx, z_Q hy]
  have e3 : (Int64.ofInt y < Int64.ofInt x) ↔ y < x := by rw [Int64.lt_iff_toInt_lt, z_Q hx, z_Q hy]
  unfold lg_cmp
  simp only [e1, e2, e3]
  repeat' split
  all_goals first | rfl | omega
end
section
/-! SOUNDNESS: the abstract machine against the machine -/
def z_sc (sc : Option (Nat × (Int → Int))) (ad : Nat → Nat) (s : State) (A : Nat → Prop) : Prop := match sc with
  | none => True
  | some b => va_X (ad 9999) b.1 (fun j : Nat => Int32.ofInt (b.2 (j : Int))) s s.heap ∧ ad 9999 < s.heap.size ∧ ¬ A (ad 9999)
def z_X (p : Program) (s : State) (m : MethodId) (args : Array Value) (c : Code) (cc : ByteArray) (own : String) (D : va_G) (cA : Nat → ClassId) (ad : Nat → Nat) (A : Nat → Prop) (n0 nL : Nat) (sc : Option (Nat × (Int → Int))) : Prop :=
  p.tables.exec = Jvm.exec ∧ c.code = cc ∧ c.maxLocals = nL ∧ s.vm.findClass own = some m.cls ∧ (∀ w ∈ z_tbl, w.before args s = true) ∧ va_K D classes (z_t cA) s ∧ z_N s ∧ (∀ i j : Nat, i < n0 → j < n0 → ad i = ad j → i = j) ∧ (∀ k : Nat, k < n0 → A (ad k)) ∧ (∀ q : Nat, s.heap.size ≤ q → A q) ∧ z_sc sc ad s A
def z_G (p : Program) (l : Launch) (e : Env) (R : Room) (s : State) (m : MethodId) (args : Array Value) (below : List Frame) (meth : Method) (c : Code) (cells slots : Nat) (Q : State → Prop) (D : va_G) (cA : Nat → ClassId) (ad : Nat → Nat) (A : Nat → Prop) (n0 nL : Nat) : zG := fun pc ls st ws =>
  ws.length = n0 → ∀ (H : Heap) (locs : List Loc) (ls' : Array Slot), va_P D classes (z_w ad cA ws) H → va_S A s.heap H locs → lv_has ls' nL (z_l ad ls) → W p l e R s m args below meth c H locs cells slots Q (F0 m pc ls' (st.map (z_v ad)))
def z_f1 (own : String) (i : Nat) (t : Nat × (Nat × Nat)) : Prop := ∃ (C : String) (T : u_T) (N : Nat), classes[t.1]? = some (C, T, N) ∧ t.2.1 < N ∧ (∀ w ∈ u_ws C T N, w ∈ z_tbl) ∧ (T t.2.1).1 = C ∧ (Cond.fieldLink own i C (T t.2.1).2.1 (T t.2.1).2.2.1 ∈ z_tbl ∨ ∃ host, Cond.fieldLinkNest own i C (T t.2.1).2.1 (T t.2.1).2.2.1 host ∈ z_nest) ∧
  (t.2.2 ≠ 0 → Cond.fieldLink own i C (T t.2.1).2.1 (T t.2.1).2.2.1 ∈ z_tbl ∧ (T t.2.1).2.2.2 = false ∧ (∃ ty0 : Nat → FieldType, ∀ k, k < N → parseFieldDescriptor (T k).2.2.1 = some (ty0 k)) ∧ (∀ a, a < N → ∀ b, b < N → a ≠ b → (T a).2.1 ≠ (T b).2.1) ∧ ((t.2.2 = 1 ∧ parseFieldDescriptor (T t.2.1).2.2.1 = some .int) ∨ (t.2.2 = 2 ∧ parseFieldDescriptor (T t.2.1).2.2.1 = some .boolean)))
def z_fok (own : String) (ft : List (Nat × (Nat × (Nat × Nat)))) : Prop := ∀ q ∈ ft, z_f1 own q.1 q.2
def z_cok (own : String) (ct : List (Nat × Int) × List (Nat × Int)) : Prop := (∀ q ∈ ct.1, Cond.constant own q.1 (Int32.ofInt q.2) ∈ z_tbl) ∧ ∀ q ∈ ct.2, Cond.constantLong own q.1 (Int64.ofInt q.2) ∈ z_tbl
def z_RR (cc : ByteArray) (Rr : Option zV → zW → Prop) (G : zG) : Prop :=
  (∀ pc ls x ws, decode cc pc = .ok (.ireturn, 1) → Rr (some (.inl x)) ws → G pc ls [.inl x] ws) ∧
  (∀ pc ls x ws, decode cc pc = .ok (.lreturn, 1) → Rr (some (.inr (.inl x))) ws → G pc ls [.inr (.inl x)] ws) ∧
  (∀ pc ls ws, decode cc pc = .ok (.return_, 1) → Rr none ws → G pc ls [] ws)
theorem z_1e {st : List zV} {k : Int → List zV → Prop} (h : z_1 st k) : ∃ x r, st = .inl x :: r ∧ k x r := by
  unfold z_1 at h; split at h
  · exact ⟨_, _, rfl, h⟩
  · exact h.elim
theorem z_2e {st : List zV} {k : Int → Int → List zV → Prop} (h : z_2 st k) : ∃ x y r, st = .inl y :: .inl x :: r ∧ k x y r := by
  unfold z_2 at h; split at h
  · exact ⟨_, _, _, rfl, h⟩
  · exact h.elim
theorem z_L1e {st : List zV} {k : Int → List zV → Prop} (h : z_L1 st k) : ∃ x r, st = .inr (.inl x) :: r ∧ k x r := by
  unfold z_L1 at h; split at h
  · exact ⟨_, _, rfl, h⟩
  · exact h.elim
theorem z_L2e {st : List zV} {k : Int → Int → List zV → Prop} (h : z_L2 st k) : ∃ x y r, st = .inr (.inl y) :: .inr (.inl x) :: r ∧ k x y r := by
  unfold z_L2 at h; split at h
  · exact ⟨_, _, _, rfl, h⟩
  · exact h.elim
theorem z_LIe {st : List zV} {k : Int → Int → List zV → Prop} (h : z_LI st k) : ∃ x y r, st = .inl y :: .inr (.inl x) :: r ∧ k x y r := by
  unfold z_LI at h; split at h
  · exact ⟨_, _, _, rfl, h⟩
  · exact h.elim
theorem z_bif {b : Bool} {P : Prop} (h : bif b then P else False) : b = true ∧ P := by
  cases b
  · exact h.elim
  · exact ⟨rfl, h⟩
theorem z_swlE {K : Nat → Prop} {x : Int} : ∀ {ts : List Nat} {lo : Int}, z_swl K x lo ts → ∀ k : Nat, k < ts.length → x = lo + (k : Int) → ∃ t, ts[k]? = some t ∧ K t
  | [], _, _, k, hk, _ => by simp at hk
  | t :: ts, lo, h, 0, _, hx => ⟨t, rfl, h.1 (by simpa using hx)⟩
  | t :: ts, lo, h, k + 1, hk, hx => by
    obtain ⟨t', h1, h2⟩ := z_swlE h.2 k (by simpa using hk) (by push_cast at hx; omega)
    exact ⟨t', by simpa using h1, h2⟩

set_option maxHeartbeats 4000000 in
theorem z_snd {p : Program} {l : Launch} {e : Env} {R : Room} {s : State} {m : MethodId} {args : Array Value} {below : List Frame} {meth : Method} {c : Code} {cells slots : Nat} {Q : State → Prop} {cc : ByteArray} {own : String} {D : va_G} {cA : Nat → ClassId} {ad : Nat → Nat} {A : Nat → Prop} {n0 nL : Nat} {sc : Option (Nat × (Int → Int))}
    (X : z_X p s m args c cc own D cA ad A n0 nL sc) {tb : List (Nat × zI)} {ft : List (Nat × (Nat × (Nat × Nat)))} {ct : List (Nat × Int) × List (Nat × Int)} {Rr : Option zV → zW → Prop}
    (htb : tb.all (z_ent cc nL) = true) (hft : z_fok own ft) (hct : z_cok own ct) (hR : z_RR cc Rr (z_G p l e R s m args below meth c cells slots Q D cA ad A n0 nL)) {K : zG} (hKG : ∀ pc ls st ws, K pc ls st ws → z_G p l e R s m args below meth c cells slots Q D cA ad A n0 nL pc ls st ws)
    {pc : Nat} {q : zI} (hq : z_a tb pc = some q) {ls : zL} {st : List zV} {ws : zW} (h : z_i tb ft ct sc Rr (z_G p l e R s m args below meth c cells slots Q D cA ad A n0 nL) K pc ls st ws q.2.1 q.2.2 q.1) : z_G p l e R s m args below meth c cells slots Q D cA ad A n0 nL pc ls st ws := by
  obtain ⟨len, hd, hnx, hc⟩ := z_ent_spec htb hq
  obtain ⟨i, nx, ps⟩ := q
  dsimp only at hd hnx hc h
  subst hnx
  obtain ⟨hx, hb, hml, hown, hts, hK, hN, hinj, hAd, hA0, hsc⟩ := X
  have hD : ∀ {ws : zW}, ws.length = n0 → va_D A (z_w ad cA ws) := fun h1 => z_D h1 hinj hAd
  cases i
  case iconst n =>
    obtain rfl := Nat.eq_of_beq_eq_true hc
    intro hlen H locs ls' hP hS hl
    exact lv_iconst hx hb hd rfl (hKG _ _ _ _ h hlen H locs ls' hP hS hl)
  case bipush n =>
    simp only [z_chk, Bool.and_eq_true, decide_eq_true_eq] at hc
    obtain ⟨h1, h2, h3⟩ := hc
    obtain rfl := Nat.eq_of_beq_eq_true h1
    intro hlen H locs ls' hP hS hl
    refine lv_bipush hx hb hd (v := Int32.ofInt n) ?_ (hKG _ _ _ _ h hlen H locs ls' hP hS hl)
    rw [← Int32.toInt_inj, z_R (by omega)]
    show (Int8.ofInt n).toInt32.toInt = n
    rw [Int8.toInt_toInt32, Int8.toInt_ofInt_of_le (by omega) (by omega)]
  case sipush n =>
    simp only [z_chk, Bool.and_eq_true, decide_eq_true_eq] at hc
    obtain ⟨h1, h2, h3⟩ := hc
    obtain rfl := Nat.eq_of_beq_eq_true h1
    intro hlen H locs ls' hP hS hl
    refine lv_sipush hx hb hd (v := Int32.ofInt n) ?_ (hKG _ _ _ _ h hlen H locs ls' hP hS hl)
    rw [← Int32.toInt_inj, z_R (by omega)]
    show (Int16.ofInt n).toInt32.toInt = n
    rw [Int16.toInt_toInt32, Int16.toInt_ofInt_of_le (by omega) (by omega)]
  case lconst n =>
    simp only [z_chk, Bool.and_eq_true] at hc
    obtain ⟨h1, h2, h3⟩ := hc
    obtain rfl := Nat.eq_of_beq_eq_true h1
    have hn := Nat.eq_of_beq_eq_true h2
    intro hlen H locs ls' hP hS hl
    have hn2 := n.isLt
    dsimp only [z_i] at h
    split at h
    · exact lv_lconst hx hb hd (v := Int64.ofInt 0) (by rw [show (n : Nat) = 0 from hn]; rfl) (hKG _ _ _ _ h hlen H locs ls' hP hS hl)
    · rename_i hne
      have e1 : (n : Nat) = 1 := by
        cases ps with
        | nil => simp at h3
        | cons a r =>
          have : (n : Nat) = a := hn
          rcases a with _ | a
          · exact absurd rfl (hne r)
          · omega
      exact lv_lconst hx hb hd (v := Int64.ofInt 1) (by rw [e1]; rfl) (hKG _ _ _ _ h hlen H locs ls' hP hS hl)
  case ldc i =>
    obtain rfl := Nat.eq_of_beq_eq_true hc
    intro hlen H locs ls' hP hS hl
    dsimp only [z_i] at h
    split at h
    · rename_i v hv
      exact lv_ldc hx hb hown (hts _ (hct.1 _ (z_a_mem hv))) hd (hKG _ _ _ _ h hlen H locs ls' hP hS hl)
    · exact h.elim
  case ldc_w i =>
    obtain rfl := Nat.eq_of_beq_eq_true hc
    intro hlen H locs ls' hP hS hl
    dsimp only [z_i] at h
    split at h
    · rename_i v hv
      exact lv_ldcw hx hb hown (hts _ (hct.1 _ (z_a_mem hv))) hd (hKG _ _ _ _ h hlen H locs ls' hP hS hl)
    · exact h.elim
  case ldc2_w i =>
    obtain rfl := Nat.eq_of_beq_eq_true hc
    intro hlen H locs ls' hP hS hl
    dsimp only [z_i] at h
    split at h
    · rename_i v hv
      exact lv_ldc2 hx hb hown (hts _ (hct.2 _ (z_a_mem hv))) hd (hKG _ _ _ _ h hlen H locs ls' hP hS hl)
    · exact h.elim
  case iload_n n =>
    simp only [z_chk, Bool.and_eq_true] at hc
    obtain ⟨h1, h2⟩ := hc
    obtain rfl := Nat.eq_of_beq_eq_true h1
    intro hlen H locs ls' hP hS hl
    dsimp only [z_i] at h
    split at h
    · rename_i x hv
      exact lv_iload_n hx hb hd (Nat.eq_of_beq_eq_true h2) (z_has_at hl hv) (hKG _ _ _ _ h hlen H locs ls' hP hS hl)
    · exact h.elim
  case iload n =>
    simp only [z_chk, Bool.and_eq_true] at hc
    obtain ⟨h1, h2⟩ := hc
    obtain rfl := Nat.eq_of_beq_eq_true h1
    obtain rfl := Nat.eq_of_beq_eq_true h2
    intro hlen H locs ls' hP hS hl
    dsimp only [z_i] at h
    split at h
    · rename_i x hv
      exact lv_iload hx hb hd (z_has_at hl hv) (hKG _ _ _ _ h hlen H locs ls' hP hS hl)
    · exact h.elim
  case lload_n n =>
    simp only [z_chk, Bool.and_eq_true] at hc
    obtain ⟨h1, h2⟩ := hc
    obtain rfl := Nat.eq_of_beq_eq_true h1
    intro hlen H locs ls' hP hS hl
    dsimp only [z_i] at h
    split at h
    · rename_i x hv
      exact lv_lload_n hx hb hd (Nat.eq_of_beq_eq_true h2) (z_has_at hl hv) (hKG _ _ _ _ h hlen H locs ls' hP hS hl)
    · exact h.elim
  case lload n =>
    simp only [z_chk, Bool.and_eq_true] at hc
    obtain ⟨h1, h2⟩ := hc
    obtain rfl := Nat.eq_of_beq_eq_true h1
    obtain rfl := Nat.eq_of_beq_eq_true h2
    intro hlen H locs ls' hP hS hl
    dsimp only [z_i] at h
    split at h
    · rename_i x hv
      exact lv_lload hx hb hd (z_has_at hl hv) (hKG _ _ _ _ h hlen H locs ls' hP hS hl)
    · exact h.elim
  case aload_n n =>
    simp only [z_chk, Bool.and_eq_true] at hc
    obtain ⟨h1, h2⟩ := hc
    obtain rfl := Nat.eq_of_beq_eq_true h1
    intro hlen H locs ls' hP hS hl
    dsimp only [z_i] at h
    split at h
    · rename_i x hv
      exact lv_aload_n hx hb hd (Nat.eq_of_beq_eq_true h2) (z_has_at hl hv) (hKG _ _ _ _ h hlen H locs ls' hP hS hl)
    · exact h.elim
  case aload n =>
    simp only [z_chk, Bool.and_eq_true] at hc
    obtain ⟨h1, h2⟩ := hc
    obtain rfl := Nat.eq_of_beq_eq_true h1
    obtain rfl := Nat.eq_of_beq_eq_true h2
    intro hlen H locs ls' hP hS hl
    dsimp only [z_i] at h
    split at h
    · rename_i x hv
      exact lv_aload hx hb hd (z_has_at hl hv) (hKG _ _ _ _ h hlen H locs ls' hP hS hl)
    · exact h.elim
  case istore_n n =>
    simp only [z_chk, Bool.and_eq_true] at hc
    obtain ⟨h1, h2, h3⟩ := hc
    obtain rfl := Nat.eq_of_beq_eq_true h1
    intro hlen H locs ls' hP hS hl
    obtain ⟨x, r, rfl, h⟩ := z_1e h
    exact lv_istore_n hx hb hd (Nat.eq_of_beq_eq_true h2) hl (by simpa [Nat.blt_eq] using h3) rfl (fun ls2 hl2 => hKG _ _ _ _ h hlen H locs ls2 hP hS (z_has_sub (z_put1 rfl) hl2))
  case istore n =>
    simp only [z_chk, Bool.and_eq_true] at hc
    obtain ⟨h1, h2, h3⟩ := hc
    obtain rfl := Nat.eq_of_beq_eq_true h1
    obtain rfl := Nat.eq_of_beq_eq_true h2
    intro hlen H locs ls' hP hS hl
    obtain ⟨x, r, rfl, h⟩ := z_1e h
    exact lv_istore hx hb hd hl (by simpa [Nat.blt_eq] using h3) rfl (fun ls2 hl2 => hKG _ _ _ _ h hlen H locs ls2 hP hS (z_has_sub (z_put1 rfl) hl2))
  case lstore_n n =>
    simp only [z_chk, Bool.and_eq_true] at hc
    obtain ⟨h1, h2, h3⟩ := hc
    obtain rfl := Nat.eq_of_beq_eq_true h1
    intro hlen H locs ls' hP hS hl
    obtain ⟨x, r, rfl, h⟩ := z_L1e h
    exact lv_lstore_n hx hb hd (Nat.eq_of_beq_eq_true h2) hl (by simpa [Nat.blt_eq] using h3) rfl (fun ls2 hl2 => hKG _ _ _ _ h hlen H locs ls2 hP hS (z_has_sub (z_put2 rfl) hl2))
  case lstore n =>
    simp only [z_chk, Bool.and_eq_true] at hc
    obtain ⟨h1, h2, h3⟩ := hc
    obtain rfl := Nat.eq_of_beq_eq_true h1
    obtain rfl := Nat.eq_of_beq_eq_true h2
    intro hlen H locs ls' hP hS hl
    obtain ⟨x, r, rfl, h⟩ := z_L1e h
    exact lv_lstore hx hb hd hl (by simpa [Nat.blt_eq] using h3) rfl (fun ls2 hl2 => hKG _ _ _ _ h hlen H locs ls2 hP hS (z_has_sub (z_put2 rfl) hl2))
  case astore_n n =>
    simp only [z_chk, Bool.and_eq_true] at hc
    obtain ⟨h1, h2, h3⟩ := hc
    obtain rfl := Nat.eq_of_beq_eq_true h1
    intro hlen H locs ls' hP hS hl
    dsimp only [z_i] at h
    split at h
    · rename_i x r
      exact lv_astore_n hx hb hd (Nat.eq_of_beq_eq_true h2) hl (by simpa [Nat.blt_eq] using h3) rfl (fun ls2 hl2 => hKG _ _ _ _ h hlen H locs ls2 hP hS (z_has_sub (z_put1 rfl) hl2))
    · exact h.elim
  case astore n =>
    simp only [z_chk, Bool.and_eq_true] at hc
    obtain ⟨h1, h2, h3⟩ := hc
    obtain rfl := Nat.eq_of_beq_eq_true h1
    obtain rfl := Nat.eq_of_beq_eq_true h2
    intro hlen H locs ls' hP hS hl
    dsimp only [z_i] at h
    split at h
    · rename_i x r
      exact lv_astore hx hb hd hl (by simpa [Nat.blt_eq] using h3) rfl (fun ls2 hl2 => hKG _ _ _ _ h hlen H locs ls2 hP hS (z_has_sub (z_put1 rfl) hl2))
    · exact h.elim
  case iinc n d =>
    simp only [z_chk, Bool.and_eq_true] at hc
    obtain ⟨h1, h2, h3⟩ := hc
    obtain rfl := Nat.eq_of_beq_eq_true h1
    obtain rfl := Nat.eq_of_beq_eq_true h2
    intro hlen H locs ls' hP hS hl
    dsimp only [z_i] at h
    split at h
    · rename_i x hv
      obtain ⟨k, hk⟩ := List.getElem?_of_mem (List.mem_map.mpr ⟨_, z_a_mem hv, rfl⟩ : (z_p1 ps, z_v ad (.inl x)) ∈ z_l ad ls)
      exact lv_iinc hx hb hd hl hk (v := Int32.ofInt (x + d)) (by rw [← Int32.ofInt_add]) (by simpa [Nat.blt_eq] using h3) rfl (fun ls2 hl2 => hKG _ _ _ _ h hlen H locs ls2 hP hS (z_has_sub (z_put1 rfl) hl2))
    · exact h.elim
  case iadd =>
    obtain rfl := Nat.eq_of_beq_eq_true hc
    obtain ⟨x, y, r, rfl, h⟩ := z_2e h
    intro hlen H locs ls' hP hS hl
    refine lv_iadd hx hb hd ?_
    rw [← Int32.ofInt_add]
    exact hKG _ _ _ _ h hlen H locs ls' hP hS hl
  case isub =>
    obtain rfl := Nat.eq_of_beq_eq_true hc
    obtain ⟨x, y, r, rfl, h⟩ := z_2e h
    intro hlen H locs ls' hP hS hl
    refine lv_isub hx hb hd ?_
    rw [← Int32.ofInt_sub]
    exact hKG _ _ _ _ h hlen H locs ls' hP hS hl
  case imul =>
    obtain rfl := Nat.eq_of_beq_eq_true hc
    obtain ⟨x, y, r, rfl, h⟩ := z_2e h
    intro hlen H locs ls' hP hS hl
    refine lv_imul hx hb hd ?_
    rw [← Int32.ofInt_mul]
    exact hKG _ _ _ _ h hlen H locs ls' hP hS hl
  case iand =>
    obtain rfl := Nat.eq_of_beq_eq_true hc
    obtain ⟨x, y, r, rfl, h⟩ := z_2e h
    intro hlen H locs ls' hP hS hl
    refine lv_iand hx hb hd ?_
    have := hKG _ _ _ _ h hlen H locs ls' hP hS hl
    simp only [List.map, z_v, z_and, Int32.ofInt_toInt] at this
    exact this
  case ior =>
    obtain rfl := Nat.eq_of_beq_eq_true hc
    obtain ⟨x, y, r, rfl, h⟩ := z_2e h
    intro hlen H locs ls' hP hS hl
    refine lv_ior hx hb hd ?_
    have := hKG _ _ _ _ h hlen H locs ls' hP hS hl
    simp only [List.map, z_v, z_or, Int32.ofInt_toInt] at this
    exact this
  case ixor =>
    obtain rfl := Nat.eq_of_beq_eq_true hc
    obtain ⟨x, y, r, rfl, h⟩ := z_2e h
    intro hlen H locs ls' hP hS hl
    refine lv_ixor hx hb hd ?_
    have := hKG _ _ _ _ h hlen H locs ls' hP hS hl
    simp only [List.map, z_v, z_xor, Int32.ofInt_toInt] at this
    exact this
  case land =>
    obtain rfl := Nat.eq_of_beq_eq_true hc
    obtain ⟨x, y, r, rfl, h⟩ := z_L2e h
    intro hlen H locs ls' hP hS hl
    refine lv_land hx hb hd ?_
    have := hKG _ _ _ _ h hlen H locs ls' hP hS hl
    simp only [List.map, z_v, z_andL, Int64.ofInt_toInt] at this
    exact this
  case lor =>
    obtain rfl := Nat.eq_of_beq_eq_true hc
    obtain ⟨x, y, r, rfl, h⟩ := z_L2e h
    intro hlen H locs ls' hP hS hl
    refine lv_lor hx hb hd ?_
    have := hKG _ _ _ _ h hlen H locs ls' hP hS hl
    simp only [List.map, z_v, z_orL, Int64.ofInt_toInt] at this
    exact this
  case idiv =>
    obtain rfl := Nat.eq_of_beq_eq_true hc
    obtain ⟨x, y, r, rfl, ⟨hX, hY⟩, h⟩ := z_2e h
    intro hlen H locs ls' hP hS hl
    refine lv_idiv hx hb hd (fun q => ?_) ?_
    · have := congrArg Int32.toInt q
      rw [z_R (by omega)] at this
      have e0 : (0 : Int32).toInt = 0 := by decide
      omega
    · rw [z_div hX hY]
      exact hKG _ _ _ _ h hlen H locs ls' hP hS hl
  case irem =>
    obtain rfl := Nat.eq_of_beq_eq_true hc
    obtain ⟨x, y, r, rfl, ⟨hX, hY⟩, h⟩ := z_2e h
    intro hlen H locs ls' hP hS hl
    refine lv_irem hx hb hd (fun q => ?_) ?_
    · have := congrArg Int32.toInt q
      rw [z_R (by omega)] at this
      have e0 : (0 : Int32).toInt = 0 := by decide
      omega
    · rw [z_mod hX hY]
      exact hKG _ _ _ _ h hlen H locs ls' hP hS hl
  case ldiv =>
    obtain rfl := Nat.eq_of_beq_eq_true hc
    obtain ⟨x, y, r, rfl, ⟨hX, hY⟩, h⟩ := z_L2e h
    intro hlen H locs ls' hP hS hl
    refine lv_ldiv hx hb hd (fun q => ?_) ?_
    · have := congrArg Int64.toInt q
      rw [z_Q (by omega)] at this
      have e0 : (0 : Int64).toInt = 0 := by decide
      omega
    · rw [z_divL hX hY]
      exact hKG _ _ _ _ h hlen H locs ls' hP hS hl
  case lrem =>
    obtain rfl := Nat.eq_of_beq_eq_true hc
    obtain ⟨x, y, r, rfl, ⟨hX, hY⟩, h⟩ := z_L2e h
    intro hlen H locs ls' hP hS hl
    refine lv_lrem hx hb hd (fun q => ?_) ?_
    · have := congrArg Int64.toInt q
      rw [z_Q (by omega)] at this
      have e0 : (0 : Int64).toInt = 0 := by decide
      omega
    · rw [z_modL hX hY]
      exact hKG _ _ _ _ h hlen H locs ls' hP hS hl
  case ladd =>
    obtain rfl := Nat.eq_of_beq_eq_true hc
    obtain ⟨x, y, r, rfl, h⟩ := z_L2e h
    intro hlen H locs ls' hP hS hl
    refine lv_ladd hx hb hd ?_
    rw [← Int64.ofInt_add]
    exact hKG _ _ _ _ h hlen H locs ls' hP hS hl
  case lsub =>
    obtain rfl := Nat.eq_of_beq_eq_true hc
    obtain ⟨x, y, r, rfl, h⟩ := z_L2e h
    intro hlen H locs ls' hP hS hl
    refine lv_lsub hx hb hd ?_
    rw [← Int64.ofInt_sub]
    exact hKG _ _ _ _ h hlen H locs ls' hP hS hl
  case lmul =>
    obtain rfl := Nat.eq_of_beq_eq_true hc
    obtain ⟨x, y, r, rfl, h⟩ := z_L2e h
    intro hlen H locs ls' hP hS hl
    refine lv_lmul hx hb hd ?_
    rw [← Int64.ofInt_mul]
    exact hKG _ _ _ _ h hlen H locs ls' hP hS hl
  case ineg =>
    obtain rfl := Nat.eq_of_beq_eq_true hc
    obtain ⟨x, r, rfl, h⟩ := z_1e h
    intro hlen H locs ls' hP hS hl
    refine lv_ineg hx hb hd ?_
    rw [← Int32.ofInt_neg]
    exact hKG _ _ _ _ h hlen H locs ls' hP hS hl
  case ishl =>
    obtain rfl := Nat.eq_of_beq_eq_true hc
    obtain ⟨x, y, r, rfl, hY, h⟩ := z_2e h
    intro hlen H locs ls' hP hS hl
    refine lv_ishl hx hb hd ?_
    rw [z_shl hY]
    exact hKG _ _ _ _ h hlen H locs ls' hP hS hl
  case ishr =>
    obtain rfl := Nat.eq_of_beq_eq_true hc
    obtain ⟨x, y, r, rfl, ⟨hX, hY⟩, h⟩ := z_2e h
    intro hlen H locs ls' hP hS hl
    refine lv_ishr hx hb hd ?_
    rw [z_shr hX hY]
    exact hKG _ _ _ _ h hlen H locs ls' hP hS hl
  case lshl =>
    obtain rfl := Nat.eq_of_beq_eq_true hc
    obtain ⟨x, y, r, rfl, hY, h⟩ := z_LIe h
    intro hlen H locs ls' hP hS hl
    exact lv_lshl hx hb hd (z_shlL hY) (hKG _ _ _ _ h hlen H locs ls' hP hS hl)
  case lshr =>
    obtain rfl := Nat.eq_of_beq_eq_true hc
    obtain ⟨x, y, r, rfl, ⟨hX, hY⟩, h⟩ := z_LIe h
    intro hlen H locs ls' hP hS hl
    exact lv_lshr hx hb hd (z_shrL hX hY) (hKG _ _ _ _ h hlen H locs ls' hP hS hl)
  case iushr =>
    obtain rfl := Nat.eq_of_beq_eq_true hc
    obtain ⟨x, y, r, rfl, h⟩ := z_2e h
    intro hlen H locs ls' hP hS hl
    exact lv_iushr hx hb hd (v := Int32.ofInt (z_ushr x y)) (by rw [z_ushr, Int32.ofInt_toInt]) (hKG _ _ _ _ h hlen H locs ls' hP hS hl)
  case lushr =>
    obtain rfl := Nat.eq_of_beq_eq_true hc
    obtain ⟨x, y, r, rfl, h⟩ := z_LIe h
    intro hlen H locs ls' hP hS hl
    exact lv_lushr hx hb hd (v := Int64.ofInt (z_lushr x y)) (by rw [z_lushr, Int64.ofInt_toInt]) (hKG _ _ _ _ h hlen H locs ls' hP hS hl)
  case i2l =>
    obtain rfl := Nat.eq_of_beq_eq_true hc
    obtain ⟨x, r, rfl, hX, h⟩ := z_1e h
    intro hlen H locs ls' hP hS hl
    exact lv_i2l hx hb hd (z_i2l hX) (hKG _ _ _ _ h hlen H locs ls' hP hS hl)
  case l2i =>
    obtain rfl := Nat.eq_of_beq_eq_true hc
    obtain ⟨x, r, rfl, h⟩ := z_L1e h
    intro hlen H locs ls' hP hS hl
    exact lv_l2i hx hb hd (v := Int32.ofInt x) (by rw [Int64.toInt32_ofInt]) (hKG _ _ _ _ h hlen H locs ls' hP hS hl)
  case i2s =>
    obtain rfl := Nat.eq_of_beq_eq_true hc
    obtain ⟨x, r, rfl, h⟩ := z_1e h
    intro hlen H locs ls' hP hS hl
    exact lv_i2s hx hb hd (v := Int32.ofInt (x.bmod 65536)) (z_i2s x) (hKG _ _ _ _ h hlen H locs ls' hP hS hl)
  case if_icmp op off =>
    simp only [z_chk, Bool.and_eq_true, decide_eq_true_eq] at hc
    obtain ⟨h1, h2⟩ := hc
    obtain rfl := Nat.eq_of_beq_eq_true h1
    obtain ⟨x, y, r, rfl, ⟨hX, hY⟩, h⟩ := z_2e h
    intro hlen H locs ls' hP hS hl
    cases op
    case eq => exact lv_icmp_eq hx hb hd h2 (fun z => (hKG _ _ _ _ (h.1 ((z_req hX hY).mp z)) hlen H locs ls' hP hS hl)) (fun z => (hKG _ _ _ _ (h.2 (fun w => z ((z_req hX hY).mpr w))) hlen H locs ls' hP hS hl))
    case ne => exact lv_icmp_ne hx hb hd h2 (fun z => (hKG _ _ _ _ (h.1 (fun w => z ((z_req hX hY).mpr w))) hlen H locs ls' hP hS hl)) (fun z => (hKG _ _ _ _ (h.2 ((z_req hX hY).mp z)) hlen H locs ls' hP hS hl))
    case lt => exact lv_icmp_lt hx hb hd h2 (fun z => (hKG _ _ _ _ (h.1 ((z_rlt hX hY).mp z)) hlen H locs ls' hP hS hl)) (fun z => (hKG _ _ _ _ (h.2 (Int.not_lt.mp (fun w => z ((z_rlt hX hY).mpr w)))) hlen H locs ls' hP hS hl))
    case ge => exact lv_icmp_ge hx hb hd h2 (fun z => (hKG _ _ _ _ (h.1 ((z_rle hY hX).mp z)) hlen H locs ls' hP hS hl)) (fun z => (hKG _ _ _ _ (h.2 (Int.not_le.mp (fun w => z ((z_rle hY hX).mpr w)))) hlen H locs ls' hP hS hl))
    case gt => exact lv_icmp_gt hx hb hd h2 (fun z => (hKG _ _ _ _ (h.1 ((z_rlt hY hX).mp z)) hlen H locs ls' hP hS hl)) (fun z => (hKG _ _ _ _ (h.2 (Int.not_lt.mp (fun w => z ((z_rlt hY hX).mpr w)))) hlen H locs ls' hP hS hl))
    case le => exact lv_icmp_le hx hb hd h2 (fun z => (hKG _ _ _ _ (h.1 ((z_rle hX hY).mp z)) hlen H locs ls' hP hS hl)) (fun z => (hKG _ _ _ _ (h.2 (Int.not_le.mp (fun w => z ((z_rle hX hY).mpr w)))) hlen H locs ls' hP hS hl))
  case ifCond op off =>
    simp only [z_chk, Bool.and_eq_true, decide_eq_true_eq] at hc
    obtain ⟨h1, h2⟩ := hc
    obtain rfl := Nat.eq_of_beq_eq_true h1
    obtain ⟨x, r, rfl, hX, h⟩ := z_1e h
    intro hlen H locs ls' hP hS hl
    cases op
    case eq => exact lv_if_eq hx hb hd h2 (fun z => (hKG _ _ _ _ (h.1 ((z_req hX (show (-2147483648 : Int) ≤ 0 ∧ (0 : Int) ≤ 2147483647 by omega)).mp z)) hlen H locs ls' hP hS hl)) (fun z => (hKG _ _ _ _ (h.2 (fun w => z ((z_req hX (show (-2147483648 : Int) ≤ 0 ∧ (0 : Int) ≤ 2147483647 by omega)).mpr w))) hlen H locs ls' hP hS hl))
    case ne => exact lv_if_ne hx hb hd h2 (fun z => (hKG _ _ _ _ (h.1 (fun w => z ((z_req hX (show (-2147483648 : Int) ≤ 0 ∧ (0 : Int) ≤ 2147483647 by omega)).mpr w))) hlen H locs ls' hP hS hl)) (fun z => (hKG _ _ _ _ (h.2 ((z_req hX (show (-2147483648 : Int) ≤ 0 ∧ (0 : Int) ≤ 2147483647 by omega)).mp z)) hlen H locs ls' hP hS hl))
    case lt => exact lv_if_lt hx hb hd h2 (fun z => (hKG _ _ _ _ (h.1 ((z_rlt hX (show (-2147483648 : Int) ≤ 0 ∧ (0 : Int) ≤ 2147483647 by omega)).mp z)) hlen H locs ls' hP hS hl)) (fun z => (hKG _ _ _ _ (h.2 (Int.not_lt.mp (fun w => z ((z_rlt hX (show (-2147483648 : Int) ≤ 0 ∧ (0 : Int) ≤ 2147483647 by omega)).mpr w)))) hlen H locs ls' hP hS hl))
    case ge => exact lv_if_ge hx hb hd h2 (fun z => (hKG _ _ _ _ (h.1 ((z_rle (show (-2147483648 : Int) ≤ 0 ∧ (0 : Int) ≤ 2147483647 by omega) hX).mp z)) hlen H locs ls' hP hS hl)) (fun z => (hKG _ _ _ _ (h.2 (Int.not_le.mp (fun w => z ((z_rle (show (-2147483648 : Int) ≤ 0 ∧ (0 : Int) ≤ 2147483647 by omega) hX).mpr w)))) hlen H locs ls' hP hS hl))
    case gt => exact lv_if_gt hx hb hd h2 (fun z => (hKG _ _ _ _ (h.1 ((z_rlt (show (-2147483648 : Int) ≤ 0 ∧ (0 : Int) ≤ 2147483647 by omega) hX).mp z)) hlen H locs ls' hP hS hl)) (fun z => (hKG _ _ _ _ (h.2 (Int.not_lt.mp (fun w => z ((z_rlt (show (-2147483648 : Int) ≤ 0 ∧ (0 : Int) ≤ 2147483647 by omega) hX).mpr w)))) hlen H locs ls' hP hS hl))
    case le => exact lv_if_le hx hb hd h2 (fun z => (hKG _ _ _ _ (h.1 ((z_rle hX (show (-2147483648 : Int) ≤ 0 ∧ (0 : Int) ≤ 2147483647 by omega)).mp z)) hlen H locs ls' hP hS hl)) (fun z => (hKG _ _ _ _ (h.2 (Int.not_le.mp (fun w => z ((z_rle hX (show (-2147483648 : Int) ≤ 0 ∧ (0 : Int) ≤ 2147483647 by omega)).mpr w)))) hlen H locs ls' hP hS hl))
  case goto off =>
    simp only [z_chk, Bool.and_eq_true, decide_eq_true_eq] at hc
    obtain ⟨h1, h2⟩ := hc
    obtain rfl := Nat.eq_of_beq_eq_true h1
    intro hlen H locs ls' hP hS hl
    exact lv_goto hx hb hd h2 (hKG _ _ _ _ h hlen H locs ls' hP hS hl)
  case lcmp =>
    obtain rfl := Nat.eq_of_beq_eq_true hc
    obtain ⟨x, y, r, rfl, ⟨hX, hY⟩, h⟩ := z_L2e h
    intro hlen H locs ls' hP hS hl
    split at h
    · rename_i op off nx2 ps2 hq2
      obtain ⟨len2, hd2, hnx2, hc2⟩ := z_ent_spec htb hq2
      dsimp only at hd2 hnx2 hc2
      simp only [z_chk, Bool.and_eq_true, decide_eq_true_eq] at hc2
      obtain ⟨h1, h2⟩ := hc2
      obtain rfl := Nat.eq_of_beq_eq_true h1
      subst hnx2
      refine W.lcmp hx hb hd ?_
      rw [z_lcmp hX hY]
      obtain ⟨t, ht⟩ : ∃ t : Int, t = (if x < y then -1 else if x = y then 0 else 1) := ⟨_, rfl⟩
      rw [← ht]
      have hT : -2147483648 ≤ t ∧ t ≤ 2147483647 := by
        rw [ht]; split
        · omega
        · split <;> omega
      have hlt : t < 0 ↔ x < y := by
        rw [ht]; split
        · omega
        · split <;> omega
      have heq : t = 0 ↔ x = y := by
        rw [ht]; split
        · omega
        · split <;> omega
      have hgt : 0 < t ↔ y < x := by
        rw [ht]; split
        · omega
        · split <;> omega
      have Z : (-2147483648 : Int) ≤ 0 ∧ (0 : Int) ≤ 2147483647 := by omega
      cases op
      case eq => exact lv_if_eq hx hb hd2 h2 (fun z => hKG _ _ _ _ (h.1 (heq.mp ((z_req hT Z).mp z))) hlen H locs ls' hP hS hl) (fun z => hKG _ _ _ _ (h.2 (fun w => z ((z_req hT Z).mpr (heq.mpr w)))) hlen H locs ls' hP hS hl)
      case ne => exact lv_if_ne hx hb hd2 h2 (fun z => hKG _ _ _ _ (h.1 (fun w => z ((z_req hT Z).mpr (heq.mpr w)))) hlen H locs ls' hP hS hl) (fun z => hKG _ _ _ _ (h.2 (heq.mp ((z_req hT Z).mp z))) hlen H locs ls' hP hS hl)
      case lt => exact lv_if_lt hx hb hd2 h2 (fun z => hKG _ _ _ _ (h.1 (hlt.mp ((z_rlt hT Z).mp z))) hlen H locs ls' hP hS hl) (fun z => hKG _ _ _ _ (h.2 (Int.not_lt.mp (fun w => z ((z_rlt hT Z).mpr (hlt.mpr w))))) hlen H locs ls' hP hS hl)
      case ge => exact lv_if_ge hx hb hd2 h2 (fun z => hKG _ _ _ _ (h.1 (Int.not_lt.mp (fun w => absurd ((z_rle Z hT).mp z) (by have := hlt.mpr w; omega)))) hlen H locs ls' hP hS hl) (fun z => hKG _ _ _ _ (h.2 (Int.not_le.mp (fun w => z ((z_rle Z hT).mpr (Int.not_lt.mp (fun v => absurd (hlt.mp v) (by omega))))))) hlen H locs ls' hP hS hl)
      case gt => exact lv_if_gt hx hb hd2 h2 (fun z => hKG _ _ _ _ (h.1 (hgt.mp ((z_rlt Z hT).mp z))) hlen H locs ls' hP hS hl) (fun z => hKG _ _ _ _ (h.2 (Int.not_lt.mp (fun w => z ((z_rlt Z hT).mpr (hgt.mpr w))))) hlen H locs ls' hP hS hl)
      case le => exact lv_if_le hx hb hd2 h2 (fun z => hKG _ _ _ _ (h.1 (Int.not_lt.mp (fun w => absurd ((z_rle hT Z).mp z) (by have := hgt.mpr w; omega)))) hlen H locs ls' hP hS hl) (fun z => hKG _ _ _ _ (h.2 (Int.not_le.mp (fun w => z ((z_rle hT Z).mpr (Int.not_lt.mp (fun v => absurd (hgt.mp v) (by omega))))))) hlen H locs ls' hP hS hl)
    · exact h.elim
  case dup =>
    obtain rfl := Nat.eq_of_beq_eq_true hc
    intro hlen H locs ls' hP hS hl
    dsimp only [z_i] at h
    split at h
    · exact lv_dup hx hb hd rfl (hKG _ _ _ _ h hlen H locs ls' hP hS hl)
    · exact lv_dup hx hb hd rfl (hKG _ _ _ _ h hlen H locs ls' hP hS hl)
    · exact h.elim
  case pop =>
    obtain rfl := Nat.eq_of_beq_eq_true hc
    intro hlen H locs ls' hP hS hl
    dsimp only [z_i] at h
    split at h
    · rename_i x r
      exact lv_pop hx hb (va := z_v ad (.inl x)) hd rfl (hKG _ _ _ _ h hlen H locs ls' hP hS hl)
    · rename_i x r
      exact lv_pop hx hb (va := z_v ad (.inr (.inr x))) hd rfl (hKG _ _ _ _ h hlen H locs ls' hP hS hl)
    · exact h.elim
  case getfield i =>
    obtain rfl := Nat.eq_of_beq_eq_true hc
    intro hlen H locs ls' hP hS hl
    dsimp only [z_i] at h
    split at h
    · rename_i q r
      split at h
      · rename_i o ho
        split at h
        · rename_i t ht
          obtain ⟨hci, h⟩ := z_bif h
          have hci := Nat.eq_of_beq_eq_true hci
          split at h
          · rename_i v hv
            obtain ⟨C, T, N, f1, f2, f3, f4, f5, -⟩ := hft _ (z_a_mem ht)
            dsimp only at f1 f2 f4 f5
            have hP0 := z_w_at (ad := ad) (cA := cA) ho
            have hv' : (o.2.map (z_v ad))[t.2.1]? = some (z_v ad v) := by rw [List.getElem?_map, ← z_g_eq, hv]; rfl
            rw [← hci] at f1
            rcases f5 with f5 | ⟨host, f5⟩
            · exact va_get hx hb hts f3 hown hK hP q hP0 f1 t.2.1 f2 (hts _ f5) (fun x hx => by rw [f4] at hx; exact hx) hv' hd (hKG _ _ _ _ h hlen H locs ls' hP hS hl)
            · exact va_getN hx hb hts f3 hown hK hP q hP0 f1 t.2.1 f2 (va_Nw.use rfl (hN _ f5)) (fun x hx => by rw [f4] at hx; exact hx) hv' hd (hKG _ _ _ _ h hlen H locs ls' hP hS hl)
          · exact h.elim
        · exact h.elim
      · exact h.elim
    · exact h.elim
  case putfield i =>
    obtain rfl := Nat.eq_of_beq_eq_true hc
    intro hlen H locs ls' hP hS hl
    dsimp only [z_i] at h
    split at h
    · rename_i x q r
      split at h
      · rename_i o ho
        split at h
        · rename_i t ht
          obtain ⟨hci, h⟩ := z_bif h
          obtain ⟨hlt, h⟩ := z_bif h
          have hci := Nat.eq_of_beq_eq_true hci
          have hlt : t.2.1 < o.2.length := by simpa [Nat.blt_eq] using hlt
          obtain ⟨C, T, N, f1, f2, f3, f4, -, f6⟩ := hft _ (z_a_mem ht)
          dsimp only at f1 f2 f4 f6
          have hP0 := z_w_at (ad := ad) (cA := cA) ho
          rw [← hci] at f1
          have hset : ∀ H1, va_P D classes ((z_w ad cA ws).set q (ad q, .inr (o.1, (o.2.map (z_v ad)).set t.2.1 (.int (Int32.ofInt x))))) H1 → va_P D classes (z_w ad cA (z_s ws q (.inl (o.1, z_s o.2 t.2.1 (.inl x))))) H1 := fun H1 h1 => by
            rw [z_w_set]
            have e : z_e ad cA (.inl (o.1, z_s o.2 t.2.1 (.inl x))) = .inr (o.1, (o.2.map (z_v ad)).set t.2.1 (.int (Int32.ofInt x))) := by
              show Sum.inr (o.1, (z_s o.2 t.2.1 (.inl x)).map (z_v ad)) = _
              rw [z_s_eq, List.map_set]; rfl
            rw [e]; exact h1
          split at h
          · rename_i h9
            obtain ⟨g1, g2, ⟨ty0, g3⟩, g4, g5⟩ := f6 (by omega)
            rcases g5 with ⟨-, g5⟩ | ⟨g6, -⟩
            · refine va_put hx hb hts f3 ty0 g3 g4 hown hK hP (hD hlen) hS q hP0 f1 t.2.1 f2 (hts _ g1) (fun x hx => by rw [f4] at hx; exact hx) g2 g5 (v := .int (Int32.ofInt x)) rfl rfl (by simpa using hlt) hd (fun H1 locs1 hP1 _ hS1 => ?_)
              exact hKG _ _ _ _ h (by rw [z_s_len]; exact hlen) H1 locs1 ls' (hset H1 hP1) hS1 hl
            · omega
          · rename_i h9
            obtain ⟨g1, g2, ⟨ty0, g3⟩, g4, g5⟩ := f6 (by omega)
            rcases g5 with ⟨g6, -⟩ | ⟨-, g5⟩
            · omega
            · refine va_put hx hb hts f3 ty0 g3 g4 hown hK hP (hD hlen) hS q hP0 f1 t.2.1 f2 (hts _ g1) (fun x hx => by rw [f4] at hx; exact hx) g2 g5 (v := .int (Int32.ofInt x)) (by rcases h.1 with rfl | rfl <;> decide) (by rcases h.1 with rfl | rfl <;> decide) (by simpa using hlt) hd (fun H1 locs1 hP1 _ hS1 => ?_)
              exact hKG _ _ _ _ h.2 (by rw [z_s_len]; exact hlen) H1 locs1 ls' (hset H1 hP1) hS1 hl
          · exact h.elim
        · exact h.elim
      · exact h.elim
    · exact h.elim
  case iaload =>
    obtain rfl := Nat.eq_of_beq_eq_true hc
    intro hlen H locs ls' hP hS hl
    dsimp only [z_i] at h
    split at h
    · rename_i i q r
      split at h
      · rename_i t n f ho
        have hP0 := z_w_at (ad := ad) (cA := cA) ho
        refine va_iald hx hb hK hP q 0 hP0 rfl (z_vin h.1) hd ?_
        rw [z_cl h.1]
        exact hKG _ _ _ _ h.2 hlen H locs ls' hP hS hl
      · exact h.elim
      · split at h
        · rename_i b _
          obtain ⟨hq9, h⟩ := z_bif h
          have hq9 := Nat.eq_of_beq_eq_true hq9
          subst hq9
          refine va_sld hx hb hsc.1 hsc.2.1 hsc.2.2 hS (z_vin h.1) hd ?_
          rw [z_cl h.1]
          exact hKG _ _ _ _ h.2 hlen H locs ls' hP hS hl
        · exact h.elim
    · exact h.elim
  case laload =>
    obtain rfl := Nat.eq_of_beq_eq_true hc
    intro hlen H locs ls' hP hS hl
    dsimp only [z_i] at h
    split at h
    · rename_i i q r
      split at h
      · rename_i t n f ho
        have hP0 := z_w_at (ad := ad) (cA := cA) ho
        refine va_lald hx hb hK hP q 1 hP0 rfl (z_vin h.1) hd ?_
        rw [z_cl h.1]
        exact hKG _ _ _ _ h.2 hlen H locs ls' hP hS hl
      · exact h.elim
    · exact h.elim
  case aaload =>
    obtain rfl := Nat.eq_of_beq_eq_true hc
    intro hlen H locs ls' hP hS hl
    dsimp only [z_i] at h
    split at h
    · rename_i i q r
      split at h
      · rename_i t n f ho
        obtain ⟨ht, h⟩ := z_bif h
        have ht := Nat.le_of_ble_eq_true ht
        have hP0 := z_w_at (ad := ad) (cA := cA) ho
        rcases (show t = 0 ∨ t = 1 by omega) with rfl | rfl
        · refine va_aldq hx hb hK hP q 2 hP0 rfl (z_vin h.1) hd ?_
          rw [z_cl h.1]
          exact hKG _ _ _ _ h.2 hlen H locs ls' hP hS hl
        · refine va_aldq hx hb hK hP q 3 hP0 rfl (z_vin h.1) hd ?_
          rw [z_cl h.1]
          exact hKG _ _ _ _ h.2 hlen H locs ls' hP hS hl
      · exact h.elim
    · exact h.elim
  case iastore =>
    obtain rfl := Nat.eq_of_beq_eq_true hc
    intro hlen H locs ls' hP hS hl
    dsimp only [z_i] at h
    split at h
    · rename_i v i q r
      split at h
      · rename_i t n f ho
        have hP0 := z_w_at (ad := ad) (cA := cA) ho
        refine va_iast hx hb hK hP (hD hlen) hS q 0 hP0 rfl (z_vin h.1) hd (fun H1 locs1 hP1 _ hS1 => ?_)
        rw [z_upd h.1] at hP1
        exact hKG _ _ _ _ h.2 (by rw [z_s_len]; exact hlen) H1 locs1 ls' (by rw [z_w_set]; exact hP1) hS1 hl
      · exact h.elim
    · exact h.elim
  case lastore =>
    obtain rfl := Nat.eq_of_beq_eq_true hc
    intro hlen H locs ls' hP hS hl
    dsimp only [z_i] at h
    split at h
    · rename_i v i q r
      split at h
      · rename_i t n f ho
        have hP0 := z_w_at (ad := ad) (cA := cA) ho
        refine va_last hx hb hK hP (hD hlen) hS q 1 hP0 rfl (z_vin h.1) hd (fun H1 locs1 hP1 _ hS1 => ?_)
        rw [z_updL h.1] at hP1
        exact hKG _ _ _ _ h.2 (by rw [z_s_len]; exact hlen) H1 locs1 ls' (by rw [z_w_set]; exact hP1) hS1 hl
      · exact h.elim
    · exact h.elim
  case arraylength =>
    obtain rfl := Nat.eq_of_beq_eq_true hc
    intro hlen H locs ls' hP hS hl
    dsimp only [z_i] at h
    split at h
    · rename_i q r
      split at h
      · exact h.elim
      · split at h
        · rename_i b _
          obtain ⟨hq9, h⟩ := z_bif h
          have hq9 := Nat.eq_of_beq_eq_true hq9
          subst hq9
          refine va_slen hx hb hsc.1 hsc.2.1 hsc.2.2 hS hd ?_
          rw [← Int32.ofInt_eq_ofNat]
          exact hKG _ _ _ _ h hlen H locs ls' hP hS hl
        · exact h.elim
    · exact h.elim
  case ireturn =>
    obtain rfl := Nat.eq_of_beq_eq_true hc
    dsimp only [z_i] at h
    split at h
    · exact hR.1 _ _ _ _ hd h
    · exact h.elim
  case lreturn =>
    obtain rfl := Nat.eq_of_beq_eq_true hc
    dsimp only [z_i] at h
    split at h
    · exact hR.2.1 _ _ _ _ hd h
    · exact h.elim
  case return_ =>
    obtain rfl := Nat.eq_of_beq_eq_true hc
    dsimp only [z_i] at h
    split at h
    · exact hR.2.2 _ _ _ hd h
    · exact h.elim
  case tableswitch d lo hi offs =>
    simp only [z_chk, Bool.and_eq_true, decide_eq_true_eq] at hc
    obtain ⟨h1, h2⟩ := hc
    obtain ⟨x, r, rfl, hX, h⟩ := z_1e h
    intro hlen H locs ls' hP hS hl
    cases ps with
    | nil => exact h.elim
    | cons t0 ts =>
      simp only [List.map_cons, List.cons.injEq] at h1
      obtain ⟨e0, e1⟩ := h1
      have eL : ts.length = offs.size := by
        have := congrArg List.length e1
        simpa using this
      by_cases ho : x < lo ∨ hi < x
      · exact lv_tableOut hx hb hd (by rw [z_R hX]; exact ho) e0.symm (hKG _ _ _ _ (h.1 ho) hlen H locs ls' hP hS hl)
      · have hk : (x - lo).toNat < ts.length := by omega
        obtain ⟨t, k1, k2⟩ := z_swlE h.2 (x - lo).toNat hk (by omega)
        have k3 : (offs.toList)[(x - lo).toNat]? = some ((t : Int) - pc) := by
          have e2 := congrArg (fun z => z[(x - lo).toNat]?) e1
          simp only [List.getElem?_map, k1, Option.map_some] at e2
          cases hz : offs.toList[(x - lo).toNat]? with
          | none => rw [hz] at e2; cases e2
          | some o =>
            rw [hz] at e2
            have := Option.some.inj e2
            dsimp only at this
            congr 1; omega
        exact lv_tableIn hx hb hd (by rw [z_R hX]; omega) (by rw [z_R hX]; omega) (off := (t : Int) - pc) (by rw [z_R hX, ← Array.getElem?_toList]; exact k3) (tgt := t) (by omega) (hKG _ _ _ _ k2 hlen H locs ls' hP hS hl)
  case lookupswitch d prs =>
    simp only [z_chk, Bool.and_eq_true, decide_eq_true_eq] at hc
    obtain ⟨h1, h2⟩ := hc
    obtain ⟨x, r, rfl, hX, h⟩ := z_1e h
    intro hlen H locs ls' hP hS hl
    have hpr : (prs.toList.zip (prs.toList.drop 1)).all (fun (a, next) => a.1 < next.1) = true := h2
    cases ps with
    | nil => exact h.elim
    | cons t0 ts =>
      simp only [List.map_cons, List.cons.injEq] at h1
      obtain ⟨e0, e1⟩ := h1
      have key : ∀ (rs : List (Int × Int)) (us : List Nat), us.map (fun t : Nat => (t : Int)) = (rs.map (fun q => q.2)).map (fun o => (pc : Int) + o) → z_lk (fun t => K t ls r ws) x t0 rs us → ∃ (off : Int) (t : Nat), Op.lookupswitch.offset rs d x = off ∧ (pc : Int) + off = (t : Int) ∧ K t ls r ws := by
        intro rs
        induction rs with
        | nil => intro us _ hk; exact ⟨d, t0, rfl, e0.symm, hk⟩
        | cons q rs ih =>
          intro us hu hk
          cases us with
          | nil => cases hu
          | cons u us =>
            simp only [List.map_cons, List.cons.injEq] at hu
            by_cases hxq : x = q.1
            · exact ⟨q.2, u, by rw [Op.lookupswitch.offset_cons, if_pos hxq.symm], hu.1.symm, hk.1 hxq⟩
            · obtain ⟨off, t, a1, a2, a3⟩ := ih us hu.2 (hk.2 hxq)
              exact ⟨off, t, by rw [Op.lookupswitch.offset_cons, if_neg (fun w => hxq w.symm)]; exact a1, a2, a3⟩
      obtain ⟨off, t, a1, a2, a3⟩ := key _ _ e1 h
      exact lv_lookup hx hb hd hpr (off := off) (by rw [z_R hX]; exact a1) a2 (hKG _ _ _ _ a3 hlen H locs ls' hP hS hl)
  case invokevirtual i =>
    exact h
  case invokestatic i =>
    exact h
  case invokespecial i =>
    exact h
  all_goals exact h.elim
theorem z_go {p : Program} {l : Launch} {e : Env} {R : Room} {s : State} {m : MethodId} {args : Array Value} {below : List Frame} {meth : Method} {c : Code} {cells slots : Nat} {Q : State → Prop} {cc : ByteArray} {own : String} {D : va_G} {cA : Nat → ClassId} {ad : Nat → Nat} {A : Nat → Prop} {n0 nL : Nat} {sc : Option (Nat × (Int → Int))}
    (X : z_X p s m args c cc own D cA ad A n0 nL sc) {tb : List (Nat × zI)} {ft : List (Nat × (Nat × (Nat × Nat)))} {ct : List (Nat × Int) × List (Nat × Int)} {Rr : Option zV → zW → Prop}
    (htb : tb.all (z_ent cc nL) = true) (hft : z_fok own ft) (hct : z_cok own ct) (hR : z_RR cc Rr (z_G p l e R s m args below meth c cells slots Q D cA ad A n0 nL)) (stops : List Nat) :
    ∀ (n : Nat) (pc : Nat) (ls : zL) (st : List zV) (ws : zW), z_run tb ft ct sc Rr stops (z_G p l e R s m args below meth c cells slots Q D cA ad A n0 nL) n pc ls st ws → z_G p l e R s m args below meth c cells slots Q D cA ad A n0 nL pc ls st ws
  | 0, pc, ls, st, ws, h => h
  | n + 1, pc, ls, st, ws, h => by
    unfold z_run at h
    split at h
    · exact h.elim
    · rename_i q hq
      refine z_snd X htb hft hct hR (K := fun pc' ls' st' ws' => bif z_in pc' stops then z_G p l e R s m args below meth c cells slots Q D cA ad A n0 nL pc' ls' st' ws' else z_run tb ft ct sc Rr stops (z_G p l e R s m args below meth c cells slots Q D cA ad A n0 nL) n pc' ls' st' ws') (fun pc' ls' st' ws' hk => ?_) hq h
      cases hz : z_in pc' stops with
      | true => rw [hz] at hk; exact hk
      | false => rw [hz] at hk; exact z_go X htb hft hct hR stops n pc' ls' st' ws' hk
end
section
/-! CONTRACTS over the abstract machine -/
abbrev zM : Type := MethodName × (ByteArray × (Nat × (Option FieldType × (Nat × Nat))))
def z_rm (y : zM) : Room := { frames := y.2.2.2.2.1, cells := 0, slots := 0, locals := y.2.2.2.2.2 }
def z_ws (y : zM) : List Cond := Cond.code y.1 y.2.1 y.2.2.1 y.2.2.2.1 :: z_tbl
def z_Pre (D : va_G) (cA : Nat → ClassId) (ad : Nat → Nat) (w : zW) (sz : Nat) : State → Prop := fun U => U.heap.size = sz ∧ va_P D classes (z_w ad cA w) U.heap ∧ va_K D classes (z_t cA) U ∧ z_N U ∧ va_D (fun _ => True) (z_w ad cA w)
def z_Qc (D : va_G) (cA : Nat → ClassId) (ad : Nat → Nat) (w : zW) (sz : Nat) (P : Option zV → zW → Prop) : Array Value → State → Outcome → State → Prop := fun _ st oc t => (∃ (v : Option zV) (w' : zW), oc = .returned (v.map (z_v ad)) ∧ P v w' ∧ w'.length = w.length ∧ va_P D classes (z_w ad cA w') t.heap) ∧ va_F (va_A (z_w ad cA w) sz) st t
/-- from the arguments A over the cells w the method ends with an answer and cells that P has; nothing else changes, nothing is made -/
def zMet (y : zM) (A : List zV) (w : zW) (P : Option zV → zW → Prop) : Prop := ∀ (l : Launch) (D : va_G) (cA : Nat → ClassId) (ad : Nat → Nat) (sz : Nat),
  Met l y.1 (z_ws y) (z_rm y) (va_Pc (A.map (z_v ad)) (z_Pre D cA ad w sz)) (z_Qc D cA ad w sz P) 0 0 (va_A (z_w ad cA w) sz)
-- places of a callee's cells among the caller's
def z_pl : List Nat → Nat → Nat
  | [], _ => 0
  | a :: _, 0 => a
  | _ :: l, k + 1 => z_pl l k
def z_rv (π : List Nat) : zV → zV
  | .inl x => .inl x
  | .inr (.inl x) => .inr (.inl x)
  | .inr (.inr k) => .inr (.inr (z_pl π k))
def z_ren (π : List Nat) : zC → zC
  | .inl o => .inl (o.1, o.2.map (z_rv π))
  | .inr (t, (n, .inl f)) => .inr (t, (n, .inl f))
  | .inr (t, (n, .inr (.inl f))) => .inr (t, (n, .inr (.inl f)))
  | .inr (t, (n, .inr (.inr f))) => .inr (t, (n, .inr (.inr (fun j => z_pl π (f j)))))
def z_sct (π : List Nat) : List Nat → zW → zW → zW
  | p :: ps, c :: cs, ws => z_sct π ps cs (z_s ws p (z_ren π c))
  | _, _, ws => ws
def z_catsum : List zV → Nat
  | [] => 0
  | v :: r => (bif z_isL v then 2 else 1) + z_catsum r
theorem z_catsum_eq (ad : Nat → Nat) : ∀ r : List zV, ((r.map (z_v ad)).map fun v => v.category).sum = z_catsum r
  | [] => rfl
  | v :: r => by
    simp only [List.map_cons, List.sum_cons, z_catsum]
    rw [← z_catsum_eq ad r]
    rcases v with x | x | x <;> rfl
theorem z_pl_get : ∀ {π : List Nat} {k p : Nat}, π[k]? = some p → z_pl π k = p
  | [], k, p, h => by simp at h
  | a :: l, 0, p, h => by simpa [z_pl] using h
  | a :: l, k + 1, p, h => by simpa [z_pl] using z_pl_get (π := l) (k := k) (by simpa using h)
theorem z_v_ren (ad : Nat → Nat) (π : List Nat) (v : zV) : z_v ad (z_rv π v) = z_v (fun k => ad (z_pl π k)) v := by
  rcases v with x | x | x <;> rfl
theorem z_e_ren (ad : Nat → Nat) (cA : Nat → ClassId) (π : List Nat) (c : zC) : z_e ad cA (z_ren π c) = z_e (fun k => ad (z_pl π k)) cA c := by
  rcases c with ⟨ci, fs⟩ | ⟨t, n, f | f | f⟩
  · show Sum.inr (ci, (fs.map (z_rv π)).map (z_v ad)) = Sum.inr (ci, fs.map (z_v fun k => ad (z_pl π k)))
    rw [List.map_map]
    congr 2
    exact List.map_congr_left fun v _ => z_v_ren ad π v
  · rfl
  · rfl
  · rfl
theorem z_sct_len (π : List Nat) : ∀ (ps : List Nat) (cs ws : zW), (z_sct π ps cs ws).length = ws.length
  | [], cs, ws => by cases cs <;> rfl
  | p :: ps, [], ws => rfl
  | p :: ps, c :: cs, ws => by rw [z_sct, z_sct_len π ps cs, z_s_len]
theorem z_sct_out (π : List Nat) : ∀ (ps : List Nat) (cs ws : zW) (k : Nat), k ∉ ps → (z_sct π ps cs ws)[k]? = ws[k]?
  | [], cs, ws, k, _ => by cases cs <;> rfl
  | p :: ps, [], ws, k, _ => rfl
  | p :: ps, c :: cs, ws, k, h => by
    rw [z_sct, z_sct_out π ps cs _ k (fun q => h (List.mem_cons_of_mem _ q)), z_s_eq, List.getElem?_set_ne]
    exact fun e => h (e ▸ List.mem_cons_self)
theorem z_sct_in (π : List Nat) : ∀ (ps : List Nat) (cs ws : zW) (j p : Nat) (c : zC), ps.Nodup → (∀ q ∈ ps, q < ws.length) → ps[j]? = some p → cs[j]? = some c → (z_sct π ps cs ws)[p]? = some (z_ren π c)
  | [], cs, ws, j, p, c, _, _, h, _ => by simp at h
  | q :: ps, [], ws, j, p, c, _, _, _, h => by simp at h
  | q :: ps, d :: cs, ws, 0, p, c, hn, hl, h1, h2 => by
    have e1 : q = p := by simpa using h1
    have e2 : d = c := by simpa using h2
    subst e1; subst e2
    rw [z_sct, z_sct_out π ps cs _ q (List.nodup_cons.mp hn).1, z_s_eq, List.getElem?_set_self]
    exact hl q List.mem_cons_self
  | q :: ps, d :: cs, ws, j + 1, p, c, hn, hl, h1, h2 => by
    rw [z_sct]
    exact z_sct_in π ps cs _ j p c (List.nodup_cons.mp hn).2 (fun r hr => by rw [z_s_len]; exact hl r (List.mem_cons_of_mem _ hr)) (by simpa using h1) (by simpa using h2)
def z_yB (y : zM) (n : Nat) : Prop := (y.1.cls ≠ "java/lang/invoke/MethodHandle" ∧ y.1.cls ≠ "java/lang/invoke/VarHandle" ∧ (parseMethodDescriptor y.1.desc).map (fun d => d.parameters.length) = some n) ∧ Cond.initialized y.1.cls ∈ z_tbl ∧ Cond.code y.1 y.2.1 y.2.2.1 y.2.2.2.1 ∈ z_tbl
def z_yV (y : zM) (n ci : Nat) : Prop := z_yB y n ∧ Cond.instanceMethod y.1 ∈ z_tbl ∧ Cond.selects y.1.cls y.1 y.1 ∈ z_tbl ∧ ∃ (T : u_T) (N : Nat), classes[ci]? = some (y.1.cls, T, N)
def z_yS (y : zM) (n : Nat) : Prop := z_yB y n ∧ Cond.static y.1 ∈ z_tbl
def z_lk1 (own : String) (i : Nat) (y : MethodName) : Prop := Cond.methodLink own i y ∈ z_tbl ∨ ∃ host, Cond.methodLinkNest own i y host ∈ z_nest
theorem z_blind (av : List Value) (D : va_G) (cA : Nat → ClassId) (ad : Nat → Nat) (w : zW) (sz : Nat) : FrameBlind (va_Pc av (z_Pre D cA ad w sz)) := fun a U g mk q => by
  obtain ⟨q0, q1, qP, qK, qN, qD⟩ := q
  exact ⟨q0, q1, qP, va_K.moved (u := U) (U := U.calling g mk a) (Vm.Alike.refl U.vm) qK, z_N_same (u := U) (U := U.calling g mk a) rfl qN, qD⟩
theorem z_goodIn {y : zM} (hc : Cond.code y.1 y.2.1 y.2.2.1 y.2.2.2.1 ∈ z_tbl) : GoodIn z_tbl (z_ws y) := fun w hw => by
  rcases List.mem_cons.mp hw with rfl | hw
  · exact z_good _ hc
  · exact z_good _ hw
/-- behind any call: out of the callee's run -/
theorem z_back {p : Program} {l : Launch} {e : Env} {R : Room} {s : State} {m : MethodId} {args : Array Value} {below : List Frame} {meth : Method} {c : Code} {cells slots : Nat} {Q : State → Prop} {cc : ByteArray} {own : String} {D : va_G} {cA : Nat → ClassId} {ad : Nat → Nat} {A : Nat → Prop} {n0 nL : Nat} {sc : Option (Nat × (Int → Int))}
    (X : z_X p s m args c cc own D cA ad A n0 nL sc) {w' : zW} {P' : Option zV → zW → Prop} {π : List Nat} (hnd : π.Nodup) {ws : zW} (hw : π.map (z_g ws) = w'.map (fun c => some (z_ren π c)))
    {H : Heap} {locs : List Loc} {pc : Nat} {ls : zL} {ls' : Array Slot} {st0 : List Value} {rest : List zV} {av : Array Value} (hlen : ws.length = n0) (hP : va_P D classes (z_w ad cA ws) H) (hS : va_S A s.heap H locs) (hl : lv_has ls' nL (z_l ad ls))
    (run : va_Run p l e R s m args below meth c H locs cells slots 0 0 (F0 m pc ls' st0) (rest.map (z_v ad)) (z_Qc D cA (fun k => ad (z_pl π k)) w' H.size P' av) (va_A (z_w (fun k => ad (z_pl π k)) cA w') H.size))
    (kk : ∀ v w2, P' v w2 → w2.length = w'.length → z_G p l e R s m args below meth c cells slots Q D cA ad A n0 nL (pc + 3) ls ((v.map (z_rv π)).toList ++ rest) (z_sct π π w2 ws)) : W p l e R s m args below meth c H locs cells slots Q (F0 m pc ls' st0) := by
  obtain ⟨hx, hb, hml, hown, hts, hK, hN, hinj, hAd, hA0, hsc⟩ := X
  have hwl : π.length = w'.length := by
    have := congrArg List.length hw
    simpa using this
  have at0 : ∀ (k : Nat) (c : zC), w'[k]? = some c → ∃ p, π[k]? = some p ∧ ws[p]? = some (z_ren π c) := by
    intro k c hk
    have h1 : (π.map (z_g ws))[k]? = some (some (z_ren π c)) := by rw [hw, List.getElem?_map, hk]; rfl
    rw [List.getElem?_map] at h1
    cases hp : π[k]? with
    | none => rw [hp] at h1; cases h1
    | some p => rw [hp] at h1; exact ⟨p, rfl, by rw [← z_g_eq]; exact Option.some.inj h1⟩
  have hpl : ∀ q ∈ π, q < ws.length := by
    intro q hq
    obtain ⟨k, hk⟩ := List.getElem?_of_mem hq
    have hk2 : k < w'.length := hwl ▸ (List.getElem?_eq_some_iff.mp hk).1
    obtain ⟨p, h1, h2⟩ := at0 k w'[k] (List.getElem?_eq_getElem hk2)
    rw [hk] at h1
    cases h1
    exact (List.getElem?_eq_some_iff.mp h2).1
  have hlt : ∀ k : Nat, k < n0 → ad k < H.size := by
    intro k hk
    have h1 : ws[k]? = some (ws[k]'(hlen ▸ hk)) := List.getElem?_eq_getElem (hlen ▸ hk)
    have h2 := hP k _ (z_w_at (ad := ad) (cA := cA) (by rw [z_g_eq]; exact h1))
    exact h2.lt
  have inC : ∀ q : Nat, va_A (z_w (fun k => ad (z_pl π k)) cA w') H.size q → (∃ (k p : Nat), π[k]? = some p ∧ q = ad p) ∨ H.size ≤ q := by
    intro q h
    rcases h with ⟨k, e, h⟩ | h
    · rw [z_w_get] at h
      cases hc : w'[k]? with
      | none => rw [hc] at h; cases h
      | some c =>
        rw [hc] at h
        obtain ⟨p, h1, -⟩ := at0 k c hc
        have := Option.some.inj h
        have h2 := congrArg Prod.fst this
        dsimp only at h2
        exact Or.inl ⟨k, p, h1, by rw [← h2, z_pl_get h1]⟩
    · exact Or.inr h
  have hF : ∀ q : Nat, va_A (z_w (fun k => ad (z_pl π k)) cA w') H.size q → A q := by
    intro q h
    rcases inC q h with ⟨k, p, h1, rfl⟩ | h
    · exact hAd p (hlen ▸ hpl p (List.mem_of_getElem? h1))
    · exact hA0 q (Nat.le_trans hS.1 h)
  intro T hT X
  obtain ⟨v, st₀, t, T', L, h0, X', hL, e1, e2, ⟨⟨v', w2, hv, hp, hl2, hP2⟩, hz, hk⟩, st⟩ := run T hT X
  rw [h0] at hz hk
  have hv' : v = v'.map (z_v fun k => ad (z_pl π k)) := by cases hv; rfl
  subst hv'
  have hP3 : va_P D classes (z_w ad cA (z_sct π π w2 ws)) T'.heap := by
    intro k q hq
    rw [z_w_get] at hq
    cases hc : (z_sct π π w2 ws)[k]? with
    | none => rw [hc] at hq; cases hq
    | some c =>
      rw [hc] at hq
      have := Option.some.inj hq
      subst this
      have hkn : k < n0 := by
        have := (List.getElem?_eq_some_iff.mp hc).1
        rw [z_sct_len] at this
        exact hlen ▸ this
      by_cases hin : k ∈ π
      · obtain ⟨j, hj⟩ := List.getElem?_of_mem hin
        have hj2 : j < w2.length := by rw [hl2, ← hwl]; exact (List.getElem?_eq_some_iff.mp hj).1
        have h4 := z_sct_in π π w2 ws j k w2[j] hnd hpl hj (List.getElem?_eq_getElem hj2)
        rw [hc] at h4
        have h5 := Option.some.inj h4
        subst h5
        have h6 := hP2 j _ (z_w_at (ad := fun k => ad (z_pl π k)) (cA := cA) (by rw [z_g_eq]; exact List.getElem?_eq_getElem hj2))
        rw [e1]
        show va_at D classes (ad k, z_e ad cA (z_ren π w2[j])) t.heap
        rw [z_e_ren]
        rw [z_pl_get hj] at h6
        exact h6
      · rw [z_sct_out π π w2 ws k hin] at hc
        have h4 := hP k _ (z_w_at (ad := ad) (cA := cA) (by rw [z_g_eq]; exact hc))
        refine h4.kept ?_
        dsimp only
        rw [e1]
        refine hk (ad k) (hlt k hkn) (fun h => ?_)
        rcases inC _ h with ⟨j, p, h5, h6⟩ | h
        · have h7 := hinj k p hkn (hlen ▸ hpl p (List.mem_of_getElem? h5)) h6
          exact hin (h7 ▸ List.mem_of_getElem? h5)
        · exact absurd (hlt k hkn) (by omega)
  have hS3 : va_S A s.heap T'.heap (locs ++ L) := ⟨Nat.le_trans hS.1 (by rw [e1]; exact hz), fun q h1 h2 => by rw [e1, hk q (Nat.lt_of_lt_of_le h1 hS.1) (fun z => h2 (hF q z))]; exact hS.2.1 q h1 h2, fun q hq => by
      rcases List.mem_append.mp hq with h | h
      · exact hS.2.2 q h
      · exact hF _ (hL q h)⟩
  have hst : ((v'.map (z_rv π)).toList ++ rest).map (z_v ad) = (v'.map (z_v fun k => ad (z_pl π k))).toList ++ rest.map (z_v ad) := by
    cases v' with
    | none => rfl
    | some v => simp [z_v_ren]
  have h8 := kk v' w2 hp hl2 (by rw [z_sct_len]; exact hlen) T'.heap (locs ++ L) ls' hP3 hS3 hl
  rw [hst] at h8
  obtain ⟨t2, a1, b1⟩ := h8 T' rfl X'
  exact ⟨t2, st t2 a1, b1⟩
theorem z_pre {p : Program} {l : Launch} {e : Env} {R : Room} {s : State} {m : MethodId} {args : Array Value} {below : List Frame} {meth : Method} {c : Code} {cells slots : Nat} {Q : State → Prop} {cc : ByteArray} {own : String} {D : va_G} {cA : Nat → ClassId} {ad : Nat → Nat} {A : Nat → Prop} {n0 nL : Nat} {sc : Option (Nat × (Int → Int))}
    (X : z_X p s m args c cc own D cA ad A n0 nL sc) {w' : zW} {π : List Nat} (hnd : π.Nodup) {ws : zW} (hw : π.map (z_g ws) = w'.map (fun c => some (z_ren π c)))
    {H : Heap} (hlen : ws.length = n0) (hP : va_P D classes (z_w ad cA ws) H) : va_P D classes (z_w (fun k => ad (z_pl π k)) cA w') H ∧ va_D (fun _ => True) (z_w (fun k => ad (z_pl π k)) cA w') := by
  obtain ⟨hx, hb, hml, hown, hts, hK, hN, hinj, hAd, hA0, hsc⟩ := X
  have hwl : π.length = w'.length := by
    have := congrArg List.length hw
    simpa using this
  have at0 : ∀ (k : Nat) (c : zC), w'[k]? = some c → ∃ p, π[k]? = some p ∧ ws[p]? = some (z_ren π c) := by
    intro k c hk
    have h1 : (π.map (z_g ws))[k]? = some (some (z_ren π c)) := by rw [hw, List.getElem?_map, hk]; rfl
    rw [List.getElem?_map] at h1
    cases hp : π[k]? with
    | none => rw [hp] at h1; cases h1
    | some p => rw [hp] at h1; exact ⟨p, rfl, by rw [← z_g_eq]; exact Option.some.inj h1⟩
  have atπ : ∀ k : Nat, k < w'.length → ∃ p, π[k]? = some p ∧ p < n0 := by
    intro k hk
    obtain ⟨p, h1, h2⟩ := at0 k w'[k] (List.getElem?_eq_getElem hk)
    exact ⟨p, h1, hlen ▸ (List.getElem?_eq_some_iff.mp h2).1⟩
  refine ⟨fun k q hq => ?_, z_D rfl (fun i j hi hj h => ?_) (fun _ _ => trivial)⟩
  · rw [z_w_get] at hq
    cases hc : w'[k]? with
    | none => rw [hc] at hq; cases hq
    | some c =>
      rw [hc] at hq
      have := Option.some.inj hq
      subst this
      obtain ⟨p, h1, h2⟩ := at0 k c hc
      have h4 := hP p _ (z_w_at (ad := ad) (cA := cA) (by rw [z_g_eq]; exact h2))
      rw [z_e_ren] at h4
      rw [z_pl_get h1]
      exact h4
  · obtain ⟨p, a1, a2⟩ := atπ i hi
    obtain ⟨q, b1, b2⟩ := atπ j hj
    rw [z_pl_get a1, z_pl_get b1] at h
    have h1 := hinj p q a2 b2 h
    subst h1
    exact (List.getElem?_inj (by rw [hwl]; exact hi) hnd).mp (a1.trans b1.symm)
theorem z_nx {cc : ByteArray} {nL : Nat} {tb : List (Nat × zI)} (h : tb.all (z_ent cc nL) = true) {pc : Nat} {q : zI} (hq : z_a tb pc = some q) (hi : (∃ i, q.1 = .invokevirtual i) ∨ (∃ i, q.1 = .invokestatic i) ∨ ∃ i, q.1 = .invokespecial i) : decode cc pc = .ok (q.1, 3) ∧ q.2.1 = pc + 3 := by
  obtain ⟨len, hd, hnx, hc⟩ := z_ent_spec h hq
  have : len = 3 := by
    rcases hi with ⟨i, hi⟩ | ⟨i, hi⟩ | ⟨i, hi⟩ <;> rw [hi] at hc <;> exact Nat.eq_of_beq_eq_true hc
  subst this
  exact ⟨hd, hnx⟩
theorem z_callV {p : Program} {l : Launch} {e : Env} {R : Room} {s : State} {m : MethodId} {args : Array Value} {below : List Frame} {meth : Method} {c : Code} {cells slots : Nat} {Q : State → Prop} {cc : ByteArray} {own : String} {D : va_G} {cA : Nat → ClassId} {ad : Nat → Nat} {A : Nat → Prop} {n0 nL : Nat} {sc : Option (Nat × (Int → Int))}
    (X : z_X p s m args c cc own D cA ad A n0 nL sc) {tb : List (Nat × zI)} (htb : tb.all (z_ent cc nL) = true) (hcr : cells ≤ R.cells ∧ slots ≤ R.slots)
    {y' : zM} {k0 : Nat} {As : List zV} {w' : zW} {P' : Option zV → zW → Prop} (hM : zMet y' (.inr (.inr k0) :: As) w' P') {n ci i : Nat} (hy : z_yV y' n ci) (hlk : Cond.methodLink own i y'.1 ∈ z_tbl)
    (hroom : y'.2.2.2.2.1 + 1 ≤ R.frames ∧ 8 + (y'.2.2.1 + 11) + y'.2.2.2.2.2 ≤ R.locals) (hn : As.length = n) {fs : List zV} (hk : z_g w' k0 = some (.inl (ci, fs)))
    (π : List Nat) (hnd : π.Nodup) {ws : zW} (hw : π.map (z_g ws) = w'.map (fun c => some (z_ren π c))) {pc nx : Nat} {ps : List Nat} {ls : zL} {st rest : List zV} (hpc : z_a tb pc = some (.invokevirtual i, (nx, ps)))
    (hst : st = (As.map (z_rv π)).reverse ++ .inr (.inr (z_pl π k0)) :: rest) (hcat : z_catsum rest ≤ 8)
    (kk : ∀ v w2, P' v w2 → w2.length = w'.length → z_G p l e R s m args below meth c cells slots Q D cA ad A n0 nL nx ls ((v.map (z_rv π)).toList ++ rest) (z_sct π π w2 ws)) : z_G p l e R s m args below meth c cells slots Q D cA ad A n0 nL pc ls st ws := by
  obtain ⟨hd, hnx⟩ := z_nx htb hpc (Or.inl ⟨i, rfl⟩)
  dsimp only at hd hnx
  subst hnx; subst hst
  intro hlen H locs ls' hP hS hl
  obtain ⟨hPc, hDc⟩ := z_pre (l := l) (e := e) (R := R) (below := below) (meth := meth) (cells := cells) (slots := slots) (Q := Q) X hnd hw hlen hP
  have X2 := X
  obtain ⟨hx, hb, hml, hown, hts, hK, hN, hinj, hAd, hA0, hsc⟩ := X2
  obtain ⟨⟨hy1, hy2, hy3⟩, hy4, hy5, T0, N0, hy6⟩ := hy
  have hrec := va_recv hK hPc hy6 (z_w_at (ad := fun k => ad (z_pl π k)) (cA := cA) hk)
  have hs1 : ((((As.map (z_rv π)).reverse ++ .inr (.inr (z_pl π k0)) :: rest)).map (z_v ad)) = (As.map (z_v fun k => ad (z_pl π k))).reverse ++ .ref (ad (z_pl π k0)) :: rest.map (z_v ad) := by
    rw [List.map_append, List.map_cons, List.map_reverse, List.map_map]
    have : As.map (z_v ad ∘ z_rv π) = As.map (z_v fun k => ad (z_pl π k)) := List.map_congr_left fun v _ => z_v_ren ad π v
    rw [this]; rfl
  rw [hs1]
  refine z_back X hnd hw hlen hP hS hl (av := ((.ref (ad (z_pl π k0)) : Value) :: As.map (z_v fun k => ad (z_pl π k))).toArray) ?_ kk
  exact va_runV ⟨hx, hb, hml, hown, hts⟩ (hM l D cA (fun k => ad (z_pl π k)) H.size) (index := i) (bytes := y'.2.1) (maxL := y'.2.2.1) (ret := y'.2.2.2.1) (n := n)
    ⟨callB_of n hts (z_goodIn hy3) rfl rfl rfl (hts _ hy2) (hts _ hlk) hy1 hroom, hts _ hy4, hts _ hy5⟩
    ⟨z_blind _ _ _ _ _ _, hrec, fun U hU hW => ⟨rfl, by rw [hU], by rw [hU]; exact hPc, va_K.moved hW.alike hK, z_N_warm hW hN, hDc⟩⟩ rfl (by simpa using hn) hl.1 rfl (lv_room (by rw [z_catsum_eq]; exact hcat)) hd ⟨by omega, by omega⟩
theorem z_callS {p : Program} {l : Launch} {e : Env} {R : Room} {s : State} {m : MethodId} {args : Array Value} {below : List Frame} {meth : Method} {c : Code} {cells slots : Nat} {Q : State → Prop} {cc : ByteArray} {own : String} {D : va_G} {cA : Nat → ClassId} {ad : Nat → Nat} {A : Nat → Prop} {n0 nL : Nat} {sc : Option (Nat × (Int → Int))}
    (X : z_X p s m args c cc own D cA ad A n0 nL sc) {tb : List (Nat × zI)} (htb : tb.all (z_ent cc nL) = true) (hcr : cells ≤ R.cells ∧ slots ≤ R.slots)
    {y' : zM} {As : List zV} {w' : zW} {P' : Option zV → zW → Prop} (hM : zMet y' As w' P') {n i : Nat} (hy : z_yS y' n) (hlk : z_lk1 own i y'.1)
    (hroom : y'.2.2.2.2.1 + 1 ≤ R.frames ∧ 8 + (y'.2.2.1 + 11) + y'.2.2.2.2.2 ≤ R.locals) (hn : As.length = n)
    (π : List Nat) (hnd : π.Nodup) {ws : zW} (hw : π.map (z_g ws) = w'.map (fun c => some (z_ren π c))) {pc nx : Nat} {ps : List Nat} {ls : zL} {st rest : List zV} (hpc : z_a tb pc = some (.invokestatic i, (nx, ps)))
    (hst : st = (As.map (z_rv π)).reverse ++ rest) (hcat : z_catsum rest ≤ 8)
    (kk : ∀ v w2, P' v w2 → w2.length = w'.length → z_G p l e R s m args below meth c cells slots Q D cA ad A n0 nL nx ls ((v.map (z_rv π)).toList ++ rest) (z_sct π π w2 ws)) : z_G p l e R s m args below meth c cells slots Q D cA ad A n0 nL pc ls st ws := by
  obtain ⟨hd, hnx⟩ := z_nx htb hpc (Or.inr (Or.inl ⟨i, rfl⟩))
  dsimp only at hd hnx
  subst hnx; subst hst
  intro hlen H locs ls' hP hS hl
  obtain ⟨hPc, hDc⟩ := z_pre (l := l) (e := e) (R := R) (below := below) (meth := meth) (cells := cells) (slots := slots) (Q := Q) X hnd hw hlen hP
  have X2 := X
  obtain ⟨hx, hb, hml, hown, hts, hK, hN, hinj, hAd, hA0, hsc⟩ := X2
  obtain ⟨⟨hy1, hy2, hy3⟩, hy4⟩ := hy
  have hs1 : ((((As.map (z_rv π)).reverse ++ rest)).map (z_v ad)) = (As.map (z_v fun k => ad (z_pl π k))).reverse ++ rest.map (z_v ad) := by
    rw [List.map_append, List.map_reverse, List.map_map]
    have : As.map (z_v ad ∘ z_rv π) = As.map (z_v fun k => ad (z_pl π k)) := List.map_congr_left fun v _ => z_v_ren ad π v
    rw [this]
  rw [hs1]
  have hpS : PreS s H (va_Pc (As.map (z_v fun k => ad (z_pl π k))) (z_Pre D cA (fun k => ad (z_pl π k)) w' H.size)) (As.map (z_v fun k => ad (z_pl π k))) := ⟨z_blind _ _ _ _ _ _, fun U hU hW => ⟨rfl, by rw [hU], by rw [hU]; exact hPc, va_K.moved hW.alike hK, z_N_warm hW hN, hDc⟩⟩
  refine z_back X hnd hw hlen hP hS hl (av := (As.map (z_v fun k => ad (z_pl π k))).toArray) ?_ kk
  rcases hlk with hlk | ⟨host, hlk⟩
  · exact va_runS ⟨hx, hb, hml, hown, hts⟩ (hM l D cA (fun k => ad (z_pl π k)) H.size) (index := i) (bytes := y'.2.1) (maxL := y'.2.2.1) (ret := y'.2.2.2.1) (n := n)
      ⟨callB_of n hts (z_goodIn hy3) rfl rfl rfl (hts _ hy2) (hts _ hlk) hy1 hroom, hts _ hy4⟩
      hpS rfl (by simpa using hn) hl.1 rfl (lv_room (by rw [z_catsum_eq]; exact hcat)) hd ⟨by omega, by omega⟩
  · exact va_runSN ⟨hx, hb, hml, hown, hts⟩ (hM l D cA (fun k => ad (z_pl π k)) H.size) (index := i) (bytes := y'.2.1) (maxL := y'.2.2.1) (ret := y'.2.2.2.1) (n := n) (host := host)
      ⟨va_cnB n hts (z_goodIn hy3) rfl rfl rfl (hN _ hlk) (hts _ hy2) hy1 hroom, hts _ hy4, trivial⟩
      hpS rfl (by simpa using hn) hl.1 rfl (lv_room (by rw [z_catsum_eq]; exact hcat)) hd ⟨by omega, by omega⟩
end
section
/-! THE RULES OF A METHOD'S BODY: what a proof may use of the unknown G -/
def z_cpy (f g : Int → Int) (n : Int) : Int → Int := fun j => if 0 ≤ j ∧ j < n then f j else g j
theorem z_copy {p : Program} {l : Launch} {e : Env} {R : Room} {s : State} {m : MethodId} {args : Array Value} {below : List Frame} {meth : Method} {c : Code} {cells slots : Nat} {Q : State → Prop} {cc : ByteArray} {own : String} {D : va_G} {cA : Nat → ClassId} {ad : Nat → Nat} {A : Nat → Prop} {n0 nL : Nat} {sc : Option (Nat × (Int → Int))}
    (X : z_X p s m args c cc own D cA ad A n0 nL sc) {tb : List (Nat × zI)} (htb : tb.all (z_ent cc nL) = true)
    {i : Nat} (hlk : Cond.methodLink own i arraycopyName ∈ z_tbl) (hroom : 1 ≤ R.frames ∧ 60 ≤ R.locals)
    {ws : zW} {q0 q1 t0 t1 n1 n2 : Nat} {f g : Int → Int} {n : Int} (h0 : z_g ws q0 = some (.inr (t0, (n1, .inl f)))) (h1 : z_g ws q1 = some (.inr (t1, (n2, .inl g)))) (hn : (0 ≤ n ∧ n ≤ 2147483647) ∧ n ≤ (n1 : Int) ∧ n ≤ (n2 : Int))
    {pc nx : Nat} {ps : List Nat} {ls : zL} {rest : List zV} (hpc : z_a tb pc = some (.invokestatic i, (nx, ps))) (hcat : z_catsum rest ≤ 8)
    (kk : z_G p l e R s m args below meth c cells slots Q D cA ad A n0 nL nx ls rest (z_s ws q1 (.inr (t1, (n2, .inl (z_cpy f g n)))))) : z_G p l e R s m args below meth c cells slots Q D cA ad A n0 nL pc ls (.inl n :: .inl 0 :: .inr (.inr q1) :: .inl 0 :: .inr (.inr q0) :: rest) ws := by
  obtain ⟨hd, hnx⟩ := z_nx htb hpc (Or.inr (Or.inl ⟨i, rfl⟩))
  dsimp only at hd hnx
  subst hnx
  intro hlen H locs ls' hP hS hl
  obtain ⟨hx, hb, hml, hown, hts, hK, hN, hinj, hAd, hA0, hsc⟩ := X
  have hD : va_D A (z_w ad cA ws) := z_D hlen hinj hAd
  have e0 : (Int32.ofInt 0).toNatClampNeg = 0 := by decide
  have en : (((Int32.ofInt n).toNatClampNeg : Nat) : Int) = n := z_cl (n := n.toNat + 1) (by omega)
  have hfun : va_cpy (fun j : Nat => Int32.ofInt (f (j : Int))) (fun j : Nat => Int32.ofInt (g (j : Int))) (Int32.ofInt 0).toNatClampNeg (Int32.ofInt 0).toNatClampNeg (Int32.ofInt n).toNatClampNeg = fun j : Nat => Int32.ofInt (z_cpy f g n (j : Int)) := by
    funext j
    unfold va_cpy z_cpy
    rw [e0]
    by_cases hj : (j : Int) < n
    · rw [if_pos (by omega), if_pos (by omega)]
      simp
    · rw [if_neg (by omega), if_neg (by omega)]
  refine va_copyi hx hb (hml.trans hl.1.symm) hown (hts _ hlk) (hts _ (z_mem 374 (by decide +kernel) (by decide +kernel))) (hts _ (z_mem 373 (by decide +kernel) (by decide +kernel))) (hts _ (z_mem 58 (by decide +kernel) (by decide +kernel))) hK hP hD hS q0 q1 0 0 (z_w_at (ad := ad) (cA := cA) h0) (z_w_at (ad := ad) (cA := cA) h1) rfl rfl rfl ?_ ?_ ?_ ?_ ?_ ?_ hroom.1 ?_ hd (fun H1 locs1 hP1 _ hS1 => ?_)
  · decide
  · decide
  · rw [show (0 : Int32) = Int32.ofInt 0 from rfl, z_rlt (by omega) (by omega)]; omega
  · rw [e0]; omega
  · rw [e0]; omega
  · intro k _; rfl
  · rw [z_catsum_eq]
    have : nativeFrameWords "java/lang/System" "arraycopy" 5 + 11 ≤ 52 := by decide +kernel
    omega
  · rw [hfun] at hP1
    exact kk (by rw [z_s_len]; exact hlen) H1 locs1 ls' (by rw [z_w_set]; exact hP1) hS1 hl
def z_rok (ret : Option FieldType) (v : Option zV) : Prop := match ret, v with
  | none, none => True
  | some .int, some (.inl _) => True
  | some .boolean, some (.inl x) => x = 0 ∨ x = 1
  | some .long, some (.inr (.inl _)) => True
  | _, _ => False
def z_Rr (ret : Option FieldType) (P : Option zV → zW → Prop) : Option zV → zW → Prop := fun v w => z_rok ret v ∧ P v w
def z_args : Nat → List zV → zL
  | _, [] => []
  | i, v :: vs => (i, v) :: z_args (bif z_isL v then i + 2 else i + 1) vs
theorem z_args_eq (ad : Nat → Nat) : ∀ (i : Nat) (vs : List zV), z_l ad (z_args i vs) = lv_args i (vs.map (z_v ad))
  | _, [] => rfl
  | i, v :: vs => by
    have e : (bif z_isL v then i + 2 else i + 1) = (if (z_v ad v).category = 2 then i + 2 else i + 1) := by
      rcases v with x | x | x <;> rfl
    show (i, z_v ad v) :: z_l ad (z_args _ vs) = (i, z_v ad v) :: lv_args _ (vs.map (z_v ad))
    rw [z_args_eq ad _ vs, e]
theorem z_sl (ad : Nat → Nat) : ∀ vs : List zV, (lg_sl (vs.map (z_v ad))).length = z_catsum vs
  | [] => rfl
  | v :: vs => by
    have := z_sl ad vs
    simp only [lg_sl, List.map_cons, List.flatMap_cons, List.length_append, z_catsum] at this ⊢
    rw [this]
    rcases v with x | x | x <;> rfl
/-- the run of instructions up to a stop, a call, a return -/
def z_rules (y : zM) (own : String) (tb : List (Nat × zI)) (ft : List (Nat × (Nat × (Nat × Nat)))) (ct : List (Nat × Int) × List (Nat × Int)) (P : Option zV → zW → Prop) (n0 : Nat) (G : zG) : Prop :=
  (∀ (stops : List Nat) (n : Nat) (pc : Nat) (ls : zL) (st : List zV) (ws : zW), z_run tb ft ct none (z_Rr y.2.2.2.1 P) stops G n pc ls st ws → G pc ls st ws) ∧
  (∀ {y' : zM} {k0 : Nat} {As : List zV} {w' : zW} {P' : Option zV → zW → Prop} (_ : zMet y' (.inr (.inr k0) :: As) w' P') {n ci i : Nat} (_ : z_yV y' n ci) (_ : Cond.methodLink own i y'.1 ∈ z_tbl)
    (_ : y'.2.2.2.2.1 + 1 ≤ y.2.2.2.2.1 ∧ 8 + (y'.2.2.1 + 11) + y'.2.2.2.2.2 ≤ y.2.2.2.2.2) (_ : As.length = n) {fs : List zV} (_ : z_g w' k0 = some (.inl (ci, fs)))
    (π : List Nat) (_ : π.Nodup) {ws : zW} (_ : π.map (z_g ws) = w'.map (fun c => some (z_ren π c))) {pc nx : Nat} {ps : List Nat} {ls : zL} {st rest : List zV} (_ : z_a tb pc = some (.invokevirtual i, (nx, ps)))
    (_ : st = (As.map (z_rv π)).reverse ++ .inr (.inr (z_pl π k0)) :: rest) (_ : z_catsum rest ≤ 8)
    (_ : ∀ v w2, P' v w2 → w2.length = w'.length → G nx ls ((v.map (z_rv π)).toList ++ rest) (z_sct π π w2 ws)), G pc ls st ws) ∧
  (∀ {y' : zM} {As : List zV} {w' : zW} {P' : Option zV → zW → Prop} (_ : zMet y' As w' P') {n i : Nat} (_ : z_yS y' n) (_ : z_lk1 own i y'.1)
    (_ : y'.2.2.2.2.1 + 1 ≤ y.2.2.2.2.1 ∧ 8 + (y'.2.2.1 + 11) + y'.2.2.2.2.2 ≤ y.2.2.2.2.2) (_ : As.length = n)
    (π : List Nat) (_ : π.Nodup) {ws : zW} (_ : π.map (z_g ws) = w'.map (fun c => some (z_ren π c))) {pc nx : Nat} {ps : List Nat} {ls : zL} {st rest : List zV} (_ : z_a tb pc = some (.invokestatic i, (nx, ps)))
    (_ : st = (As.map (z_rv π)).reverse ++ rest) (_ : z_catsum rest ≤ 8)
    (_ : ∀ v w2, P' v w2 → w2.length = w'.length → G nx ls ((v.map (z_rv π)).toList ++ rest) (z_sct π π w2 ws)), G pc ls st ws) ∧
  (∀ {i : Nat} (_ : Cond.methodLink own i arraycopyName ∈ z_tbl) (_ : 1 ≤ y.2.2.2.2.1 ∧ 60 ≤ y.2.2.2.2.2)
    {ws : zW} {q0 q1 t0 t1 n1 n2 : Nat} {f g : Int → Int} {n : Int} (_ : z_g ws q0 = some (.inr (t0, (n1, .inl f)))) (_ : z_g ws q1 = some (.inr (t1, (n2, .inl g)))) (_ : (0 ≤ n ∧ n ≤ 2147483647) ∧ n ≤ (n1 : Int) ∧ n ≤ (n2 : Int))
    {pc nx : Nat} {ps : List Nat} {ls : zL} {rest : List zV} (_ : z_a tb pc = some (.invokestatic i, (nx, ps))) (_ : z_catsum rest ≤ 8)
    (_ : G nx ls rest (z_s ws q1 (.inr (t1, (n2, .inl (z_cpy f g n)))))), G pc ls (.inl n :: .inl 0 :: .inr (.inr q1) :: .inl 0 :: .inr (.inr q0) :: rest) ws) ∧
  (∀ {pc : Nat} {ls l' : zL} {st : List zV} {ws : zW}, (∀ q ∈ l', q ∈ ls) → G pc l' st ws → G pc ls st ws) ∧
  (∀ {pc : Nat} {ls : zL} {st : List zV} {ws : zW}, (ws.length = n0 → G pc ls st ws) → G pc ls st ws)
theorem zMet.of {y : zM} {As : List zV} {w : zW} {P : Option zV → zW → Prop} {own : String} (hyc : y.1.cls = own) (hyp : plainName y.1.cls = true) {tb : List (Nat × zI)} {ft : List (Nat × (Nat × (Nat × Nat)))} {ct : List (Nat × Int) × List (Nat × Int)}
    (htb : tb.all (z_ent y.2.1 y.2.2.1) = true) (hft : z_fok own ft) (hct : z_cok own ct) (hA : z_catsum As ≤ y.2.2.1)
    (body : ∀ G : zG, z_rules y own tb ft ct P w.length G → G 0 (z_args 0 As) [] w) : zMet y As w P := by
  intro l D cA ad sz
  refine Met.ofW (cc := y.2.1) (maxL := y.2.2.1) (ret := y.2.2.2.1) hyp rfl ?_
  intro p e s m args below meth c s₁ B hml hv
  obtain ⟨rfl, hsz, hP, hK, hN, hD0⟩ := hv
  have hts0 := atoms_spec (ws := z_ws y) B.pre
  have hts : ∀ w ∈ z_tbl, w.before (As.map (z_v ad)).toArray s = true := fun w hw => hts0 w (List.mem_cons_of_mem _ hw)
  have hown : s.vm.findClass own = some m.cls := by rw [← hyc]; exact findClass_of_methodNamed B.named
  subst hsz
  have hinj : ∀ i j : Nat, i < w.length → j < w.length → ad i = ad j → i = j := fun i j hi hj h =>
    hD0.1 i j _ _ (z_w_at (ad := ad) (cA := cA) (by rw [z_g_eq]; exact List.getElem?_eq_getElem hi)) (z_w_at (ad := ad) (cA := cA) (by rw [z_g_eq]; exact List.getElem?_eq_getElem hj)) h
  have hAd : ∀ k : Nat, k < w.length → va_A (z_w ad cA w) s.heap.size (ad k) := fun k hk => va_A.in (q := (ad k, _)) (z_w_at (ad := ad) (cA := cA) (by rw [z_g_eq]; exact List.getElem?_eq_getElem hk))
  have X : z_X p s m (As.map (z_v ad)).toArray c y.2.1 own D cA ad (va_A (z_w ad cA w) s.heap.size) w.length y.2.2.1 none := ⟨B.exec, B.bytes, hml, hown, hts, hK, hN, hinj, hAd, fun q h => Or.inr h, trivial⟩
  have hR : z_RR y.2.1 (z_Rr y.2.2.2.1 P) (z_G p l e (z_rm y) s m (As.map (z_v ad)).toArray below meth c 0 0 (MQ below (z_Qc D cA ad w s.heap.size P) (As.map (z_v ad)).toArray s 0 0 (va_A (z_w ad cA w) s.heap.size)) D cA ad (va_A (z_w ad cA w) s.heap.size) w.length y.2.2.1) := by
    refine ⟨fun pc ls x ws hd h hlen H locs ls' hP hS hl => ?_, fun pc ls x ws hd h hlen H locs ls' hP hS hl => ?_, fun pc ls ws hd h hlen H locs ls' hP hS hl => ?_⟩
    · obtain ⟨h1, h2⟩ := h
      have hq : ∀ t : State, t.heap = H → s.WarmedH t.vm → z_Qc D cA ad w s.heap.size P (As.map (z_v ad)).toArray s (.returned (some (.int (Int32.ofInt x)))) t := fun t ht hW => ⟨⟨some (.inl x), ws, rfl, h2, hlen, by rw [ht]; exact hP⟩, hS.F ht⟩
      have hr := B.returns
      cases hret : y.2.2.2.1 with
      | none => rw [hret] at h1; exact h1.elim
      | some ty =>
        rw [hret] at h1 hr
        cases ty
        case int => exact W.zret B.exec B.bytes hr rfl hq hS.2.2 hd (hlocks := B.notSynchronized)
        case boolean => exact W.zret B.exec B.bytes hr (by rcases h1 with rfl | rfl <;> decide) hq hS.2.2 hd (hlocks := B.notSynchronized)
        all_goals exact h1.elim
    · obtain ⟨h1, h2⟩ := h
      have hq : ∀ t : State, t.heap = H → s.WarmedH t.vm → z_Qc D cA ad w s.heap.size P (As.map (z_v ad)).toArray s (.returned (some (.long (Int64.ofInt x)))) t := fun t ht hW => ⟨⟨some (.inr (.inl x)), ws, rfl, h2, hlen, by rw [ht]; exact hP⟩, hS.F ht⟩
      have hr := B.returns
      cases hret : y.2.2.2.1 with
      | none => rw [hret] at h1; exact h1.elim
      | some ty =>
        rw [hret] at h1 hr
        cases ty
        case long => exact W.lret B.exec B.bytes hr hq hS.2.2 hd (hlocks := B.notSynchronized)
        all_goals exact h1.elim
    · obtain ⟨h1, h2⟩ := h
      have hq : ∀ t : State, t.heap = H → s.WarmedH t.vm → z_Qc D cA ad w s.heap.size P (As.map (z_v ad)).toArray s (.returned none) t := fun t ht hW => ⟨⟨none, ws, rfl, h2, hlen, by rw [ht]; exact hP⟩, hS.F ht⟩
      have hr := B.returns
      cases hret : y.2.2.2.1 with
      | some ty =>
        rw [hret] at h1
        cases ty <;> exact h1.elim
      | none =>
        rw [hret] at hr
        exact W.vret B.exec B.bytes hr hq hS.2.2 hd (hlocks := B.notSynchronized)
  have K := body _ ⟨fun stops n pc ls st ws h => z_go X htb hft hct hR stops n pc ls st ws h,
    @fun y' k0 As2 w' P' hM n ci i hy hlk hroom hn fs hk π hnd ws hw pc nx ps ls st rest hpc hst hcat kk => z_callV X htb ⟨Nat.zero_le _, Nat.zero_le _⟩ hM hy hlk hroom hn hk π hnd hw hpc hst hcat kk,
    @fun y' As2 w' P' hM n i hy hlk hroom hn π hnd ws hw pc nx ps ls st rest hpc hst hcat kk => z_callS X htb ⟨Nat.zero_le _, Nat.zero_le _⟩ hM hy hlk hroom hn π hnd hw hpc hst hcat kk,
    fun {i} hlk hroom {ws q0 q1 t0 t1 n1 n2 f g n} h0 h1 hn {pc nx ps ls rest} hpc hcat kk => z_copy X htb hlk hroom h0 h1 hn hpc hcat kk,
    fun {pc ls l' st ws} hs h hlen H locs ls' hP hS hl => h hlen H locs ls' hP hS (z_has_sub (fun q hq => by
      obtain ⟨u, hu, rfl⟩ := List.mem_map.mp hq
      exact List.mem_map.mpr ⟨u, hs u hu, rfl⟩) hl),
    fun {pc ls st ws} h hlen => h hlen hlen⟩
  rw [lg_entry_eq]
  have hl0 := lv_entry (As.map (z_v ad)) (n := y.2.2.1) (by rw [z_sl]; exact hA)
  exact K rfl s.heap [] _ hP va_S.rf (by rw [z_args_eq]; exact hl0)
end
