/-! TABLES: fields, constants, links -/
def ft_Co : List (Nat × (Nat × (Nat × Nat))) := [(9, (0, (0, 0))), (15, (0, (1, 0))), (18, (0, (2, 1))), (22, (0, (3, 1))), (25, (0, (4, 1)))]
theorem f_Co_9 : z_f1 RX0 9 (0, (0, 0)) := ⟨RX0, TX0, 5, rfl, by decide, izX0, rfl, Or.inl (z_mem 91 (by decide +kernel) (by decide +kernel)), fun h => absurd rfl h⟩
theorem f_Co_15 : z_f1 RX0 15 (0, (1, 0)) := ⟨RX0, TX0, 5, rfl, by decide, izX0, rfl, Or.inl (z_mem 92 (by decide +kernel) (by decide +kernel)), fun h => absurd rfl h⟩
theorem f_Co_18 : z_f1 RX0 18 (0, (2, 1)) := ⟨RX0, TX0, 5, rfl, by decide, izX0, rfl, Or.inl (z_mem 93 (by decide +kernel) (by decide +kernel)), fun _ => ⟨z_mem 93 (by decide +kernel) (by decide +kernel), rfl, ⟨tyX0, tyX0_ok⟩, nmX0, Or.inl ⟨rfl, by decide +kernel⟩⟩⟩
theorem f_Co_22 : z_f1 RX0 22 (0, (3, 1)) := ⟨RX0, TX0, 5, rfl, by decide, izX0, rfl, Or.inl (z_mem 94 (by decide +kernel) (by decide +kernel)), fun _ => ⟨z_mem 94 (by decide +kernel) (by decide +kernel), rfl, ⟨tyX0, tyX0_ok⟩, nmX0, Or.inl ⟨rfl, by decide +kernel⟩⟩⟩
theorem f_Co_25 : z_f1 RX0 25 (0, (4, 1)) := ⟨RX0, TX0, 5, rfl, by decide, izX0, rfl, Or.inl (z_mem 95 (by decide +kernel) (by decide +kernel)), fun _ => ⟨z_mem 95 (by decide +kernel) (by decide +kernel), rfl, ⟨tyX0, tyX0_ok⟩, nmX0, Or.inl ⟨rfl, by decide +kernel⟩⟩⟩
theorem fok_Co : z_fok RX0 ft_Co := List.forall_mem_cons.mpr ⟨f_Co_9, List.forall_mem_cons.mpr ⟨f_Co_15, List.forall_mem_cons.mpr ⟨f_Co_18, List.forall_mem_cons.mpr ⟨f_Co_22, List.forall_mem_cons.mpr ⟨f_Co_25, fun _ h => absurd h List.not_mem_nil⟩⟩⟩⟩⟩
def ct_Co : List (Nat × Int) × List (Nat × Int) := ([], [])
theorem cok_Co : z_cok RX0 ct_Co := ⟨fun _ h => absurd h List.not_mem_nil, fun _ h => absurd h List.not_mem_nil⟩
theorem lk_Co_28 : Cond.methodLink RX0 28 yX0_has ∈ z_tbl := z_mem 246 (by decide +kernel) (by decide +kernel)
theorem lk_Co_32 : Cond.methodLink RX0 32 yX0_kindOf ∈ z_tbl := z_mem 242 (by decide +kernel) (by decide +kernel)
theorem lk_Co_36 : Cond.methodLink RX0 36 arraycopyName ∈ z_tbl := z_mem 403 (by decide +kernel) (by decide +kernel)
theorem lk_Co_42 : Cond.methodLink RX0 42 yX0_seatAll ∈ z_tbl := z_mem 584 (by decide +kernel) (by decide +kernel)
theorem lk_Co_46 : Cond.methodLink RX0 46 yX0_slipAlone ∈ z_tbl := z_mem 276 (by decide +kernel) (by decide +kernel)
theorem lk_Co_50 : Cond.methodLink RX0 50 yX0_slipOf ∈ z_tbl := z_mem 280 (by decide +kernel) (by decide +kernel)
theorem lk_Co_53 : Cond.methodLink RX0 53 yX0_freeGuest ∈ z_tbl := z_mem 428 (by decide +kernel) (by decide +kernel)
theorem lk_Co_57 : Cond.methodLink RX0 57 yX0_share ∈ z_tbl := z_mem 436 (by decide +kernel) (by decide +kernel)
theorem lk_Co_60 : Cond.methodLink RX0 60 yX0_placeOf ∈ z_tbl := z_mem 432 (by decide +kernel) (by decide +kernel)
theorem lk_Co_63 : Cond.methodLink RX0 63 yX0_shareOfTwo ∈ z_tbl := z_mem 440 (by decide +kernel) (by decide +kernel)
theorem lk_Co_67 : Cond.methodLink RX0 67 yX0_shareOfMost ∈ z_tbl := z_mem 447 (by decide +kernel) (by decide +kernel)
theorem lk_Co_70 : Cond.methodLink RX0 70 (⟨"java/lang/Math", "abs", "(I)I"⟩ : MethodName) ∈ z_tbl := z_mem 444 (by decide +kernel) (by decide +kernel)
def ft_Ni : List (Nat × (Nat × (Nat × Nat))) := [(9, (1, (0, 0))), (17, (1, (1, 0))), (21, (1, (2, 1)))]
theorem f_Ni_9 : z_f1 RX1 9 (1, (0, 0)) := ⟨RX1, TX1, 3, rfl, by decide, izX1, rfl, Or.inl (z_mem 116 (by decide +kernel) (by decide +kernel)), fun h => absurd rfl h⟩
theorem f_Ni_17 : z_f1 RX1 17 (1, (1, 0)) := ⟨RX1, TX1, 3, rfl, by decide, izX1, rfl, Or.inl (z_mem 117 (by decide +kernel) (by decide +kernel)), fun h => absurd rfl h⟩
theorem f_Ni_21 : z_f1 RX1 21 (1, (2, 1)) := ⟨RX1, TX1, 3, rfl, by decide, izX1, rfl, Or.inl (z_mem 118 (by decide +kernel) (by decide +kernel)), fun _ => ⟨z_mem 118 (by decide +kernel) (by decide +kernel), rfl, ⟨tyX1, tyX1_ok⟩, nmX1, Or.inl ⟨rfl, by decide +kernel⟩⟩⟩
theorem fok_Ni : z_fok RX1 ft_Ni := List.forall_mem_cons.mpr ⟨f_Ni_9, List.forall_mem_cons.mpr ⟨f_Ni_17, List.forall_mem_cons.mpr ⟨f_Ni_21, fun _ h => absurd h List.not_mem_nil⟩⟩⟩
def ct_Ni : List (Nat × Int) × List (Nat × Int) := ([], [])
theorem cok_Ni : z_cok RX1 ct_Ni := ⟨fun _ h => absurd h List.not_mem_nil, fun _ h => absurd h List.not_mem_nil⟩
theorem lk_Ni_26 : Cond.methodLink RX1 26 yX0_copyFrom ∈ z_tbl := z_mem 580 (by decide +kernel) (by decide +kernel)
theorem lk_Ni_30 : Cond.methodLink RX1 30 yX1_alwaysKnew ∈ z_tbl := z_mem 593 (by decide +kernel) (by decide +kernel)
theorem lk_Ni_34 : Cond.methodLink RX1 34 yX0_has ∈ z_tbl := z_mem 597 (by decide +kernel) (by decide +kernel)
theorem lk_Ni_37 : Cond.methodLink RX1 37 yX0_slipOf ∈ z_tbl := z_mem 598 (by decide +kernel) (by decide +kernel)
theorem lk_Ni_41 : Cond.methodLink RX1 41 yX1_alwaysPaid ∈ z_tbl := z_mem 607 (by decide +kernel) (by decide +kernel)
theorem lk_Ni_44 : Cond.methodLink RX1 44 yX1_alwaysBetween ∈ z_tbl := z_mem 613 (by decide +kernel) (by decide +kernel)
theorem lk_Ni_48 : Cond.methodLink RX1 48 yX0_freeGuest ∈ z_tbl := z_mem 611 (by decide +kernel) (by decide +kernel)
theorem lk_Ni_52 : Cond.methodLink RX1 52 yX0_share ∈ z_tbl := z_mem 612 (by decide +kernel) (by decide +kernel)
theorem lk_Ni_56 : Cond.methodLink RX1 56 yX0_isBetween ∈ z_tbl := z_mem 617 (by decide +kernel) (by decide +kernel)
def ft_Sh : List (Nat × (Nat × (Nat × Nat))) := [(9, (2, (0, 0))), (15, (2, (1, 1))), (19, (2, (2, 1)))]
theorem f_Sh_9 : z_f1 RX2 9 (2, (0, 0)) := ⟨RX2, TX2, 3, rfl, by decide, izX2, rfl, Or.inl (z_mem 169 (by decide +kernel) (by decide +kernel)), fun h => absurd rfl h⟩
theorem f_Sh_15 : z_f1 RX2 15 (2, (1, 1)) := ⟨RX2, TX2, 3, rfl, by decide, izX2, rfl, Or.inl (z_mem 170 (by decide +kernel) (by decide +kernel)), fun _ => ⟨z_mem 170 (by decide +kernel) (by decide +kernel), rfl, ⟨tyX2, tyX2_ok⟩, nmX2, Or.inl ⟨rfl, by decide +kernel⟩⟩⟩
theorem f_Sh_19 : z_f1 RX2 19 (2, (2, 1)) := ⟨RX2, TX2, 3, rfl, by decide, izX2, rfl, Or.inl (z_mem 171 (by decide +kernel) (by decide +kernel)), fun _ => ⟨z_mem 171 (by decide +kernel) (by decide +kernel), rfl, ⟨tyX2, tyX2_ok⟩, nmX2, Or.inl ⟨rfl, by decide +kernel⟩⟩⟩
theorem fok_Sh : z_fok RX2 ft_Sh := List.forall_mem_cons.mpr ⟨f_Sh_9, List.forall_mem_cons.mpr ⟨f_Sh_15, List.forall_mem_cons.mpr ⟨f_Sh_19, fun _ h => absurd h List.not_mem_nil⟩⟩⟩
def ct_Sh : List (Nat × Int) × List (Nat × Int) := ([], [(34, 99), (36, -1)])
theorem cok_Sh : z_cok RX2 ct_Sh := ⟨fun _ h => absurd h List.not_mem_nil, List.forall_mem_cons.mpr ⟨z_mem 673 (by decide +kernel) (by decide +kernel), List.forall_mem_cons.mpr ⟨z_mem 674 (by decide +kernel) (by decide +kernel), fun _ h => absurd h List.not_mem_nil⟩⟩⟩
theorem lk_Sh_22 : Cond.methodLink RX2 22 yX2_isMissing ∈ z_tbl := z_mem 661 (by decide +kernel) (by decide +kernel)
theorem lk_Sh_26 : Cond.methodLink RX2 26 yX2_narrowed ∈ z_tbl := z_mem 706 (by decide +kernel) (by decide +kernel)
theorem lk_Sh_30 : Cond.methodLink RX2 30 yX2_itemAt ∈ z_tbl := z_mem 669 (by decide +kernel) (by decide +kernel)
def ft_Su : List (Nat × (Nat × (Nat × Nat))) := [(9, (3, (0, 0)))]
theorem f_Su_9 : z_f1 RX3 9 (3, (0, 0)) := ⟨RX3, TX3, 1, rfl, by decide, izX3, rfl, Or.inl (z_mem 80 (by decide +kernel) (by decide +kernel)), fun h => absurd rfl h⟩
theorem fok_Su : z_fok RX3 ft_Su := List.forall_mem_cons.mpr ⟨f_Su_9, fun _ h => absurd h List.not_mem_nil⟩
def ct_Su : List (Nat × Int) × List (Nat × Int) := ([], [])
theorem cok_Su : z_cok RX3 ct_Su := ⟨fun _ h => absurd h List.not_mem_nil, fun _ h => absurd h List.not_mem_nil⟩
theorem lk_Su_19 : Cond.methodLink RX3 19 arraycopyName ∈ z_tbl := z_mem 372 (by decide +kernel) (by decide +kernel)
theorem lk_Su_25 : Cond.methodLink RX3 25 yX3_together ∈ z_tbl := z_mem 267 (by decide +kernel) (by decide +kernel)
theorem lk_Su_29 : Cond.methodLink RX3 29 yX3_weighed ∈ z_tbl := z_mem 268 (by decide +kernel) (by decide +kernel)
theorem lk_Su_15 : z_lk1 RX3 15 yX6_isSum := Or.inr ⟨"FarthestPays", List.mem_of_getElem? (i := 11) (by decide +kernel)⟩
def ft_Ta : List (Nat × (Nat × (Nat × Nat))) := [(12, (4, (0, 0))), (21, (4, (1, 0))), (28, (4, (2, 0)))]
theorem f_Ta_12 : z_f1 RX4 12 (4, (0, 0)) := ⟨RX4, TX4, 3, rfl, by decide, izX4, rfl, Or.inl (z_mem 126 (by decide +kernel) (by decide +kernel)), fun h => absurd rfl h⟩
theorem f_Ta_21 : z_f1 RX4 21 (4, (1, 0)) := ⟨RX4, TX4, 3, rfl, by decide, izX4, rfl, Or.inl (z_mem 128 (by decide +kernel) (by decide +kernel)), fun h => absurd rfl h⟩
theorem f_Ta_28 : z_f1 RX4 28 (4, (2, 0)) := ⟨RX4, TX4, 3, rfl, by decide, izX4, rfl, Or.inl (z_mem 130 (by decide +kernel) (by decide +kernel)), fun h => absurd rfl h⟩
theorem fok_Ta : z_fok RX4 ft_Ta := List.forall_mem_cons.mpr ⟨f_Ta_12, List.forall_mem_cons.mpr ⟨f_Ta_21, List.forall_mem_cons.mpr ⟨f_Ta_28, fun _ h => absurd h List.not_mem_nil⟩⟩⟩
def ct_Ta : List (Nat × Int) × List (Nat × Int) := ([], [(54, 2520), (91, -1)])
theorem cok_Ta : z_cok RX4 ct_Ta := ⟨fun _ h => absurd h List.not_mem_nil, List.forall_mem_cons.mpr ⟨z_mem 492 (by decide +kernel) (by decide +kernel), List.forall_mem_cons.mpr ⟨z_mem 536 (by decide +kernel) (by decide +kernel), fun _ h => absurd h List.not_mem_nil⟩⟩⟩
theorem lk_Ta_32 : Cond.methodLink RX4 32 yX3_copyFrom ∈ z_tbl := z_mem 637 (by decide +kernel) (by decide +kernel)
theorem lk_Ta_36 : Cond.methodLink RX4 36 yX0_copyFrom ∈ z_tbl := z_mem 638 (by decide +kernel) (by decide +kernel)
theorem lk_Ta_39 : Cond.methodLink RX4 39 yX1_copyFrom ∈ z_tbl := z_mem 639 (by decide +kernel) (by decide +kernel)
theorem lk_Ta_42 : Cond.methodLink RX4 42 yX0_freeGuest ∈ z_tbl := z_mem 476 (by decide +kernel) (by decide +kernel)
theorem lk_Ta_46 : Cond.methodLink RX4 46 yX3_weightOf ∈ z_tbl := z_mem 477 (by decide +kernel) (by decide +kernel)
theorem lk_Ta_50 : Cond.methodLink RX4 50 yX0_share ∈ z_tbl := z_mem 478 (by decide +kernel) (by decide +kernel)
theorem lk_Ta_56 : Cond.methodLink RX4 56 yX3_weighed ∈ z_tbl := z_mem 493 (by decide +kernel) (by decide +kernel)
theorem lk_Ta_59 : Cond.methodLink RX4 59 yX0_slipOf ∈ z_tbl := z_mem 487 (by decide +kernel) (by decide +kernel)
theorem lk_Ta_62 : Cond.methodLink RX4 62 yX0_putSlip ∈ z_tbl := z_mem 494 (by decide +kernel) (by decide +kernel)
theorem lk_Ta_66 : Cond.methodLink RX4 66 yX4_burden ∈ z_tbl := z_mem 495 (by decide +kernel) (by decide +kernel)
theorem lk_Ta_70 : Cond.methodLink RX4 70 yX4_wholeBurden ∈ z_tbl := z_mem 488 (by decide +kernel) (by decide +kernel)
theorem lk_Ta_74 : Cond.methodLink RX4 74 yX0_isNought ∈ z_tbl := z_mem 509 (by decide +kernel) (by decide +kernel)
theorem lk_Ta_78 : Cond.methodLink RX4 78 yX4_lightestSlip ∈ z_tbl := z_mem 510 (by decide +kernel) (by decide +kernel)
theorem lk_Ta_81 : Cond.methodLink RX4 81 yX4_burdenBy ∈ z_tbl := z_mem 511 (by decide +kernel) (by decide +kernel)
theorem lk_Ta_85 : Cond.methodLink RX4 85 yX0_size ∈ z_tbl := z_mem 504 (by decide +kernel) (by decide +kernel)
theorem lk_Ta_88 : Cond.methodLink RX4 88 yX4_betterSlip ∈ z_tbl := z_mem 505 (by decide +kernel) (by decide +kernel)
theorem lk_Ta_93 : Cond.methodLink RX4 93 yX4_putPair ∈ z_tbl := z_mem 537 (by decide +kernel) (by decide +kernel)
theorem lk_Ta_97 : Cond.methodLink RX4 97 yX4_hardestPair ∈ z_tbl := z_mem 549 (by decide +kernel) (by decide +kernel)
theorem lk_Ta_101 : Cond.methodLink RX4 101 yX4_burdenByPair ∈ z_tbl := z_mem 550 (by decide +kernel) (by decide +kernel)
def ft_Tp : List (Nat × (Nat × (Nat × Nat))) := [(9, (5, (0, 0))), (15, (5, (1, 1))), (19, (5, (2, 1))), (22, (5, (3, 1)))]
theorem f_Tp_9 : z_f1 RX5 9 (5, (0, 0)) := ⟨RX5, TX5, 4, rfl, by decide, izX5, rfl, Or.inl (z_mem 145 (by decide +kernel) (by decide +kernel)), fun h => absurd rfl h⟩
theorem f_Tp_15 : z_f1 RX5 15 (5, (1, 1)) := ⟨RX5, TX5, 4, rfl, by decide, izX5, rfl, Or.inl (z_mem 146 (by decide +kernel) (by decide +kernel)), fun _ => ⟨z_mem 146 (by decide +kernel) (by decide +kernel), rfl, ⟨tyX5, tyX5_ok⟩, nmX5, Or.inl ⟨rfl, by decide +kernel⟩⟩⟩
theorem f_Tp_19 : z_f1 RX5 19 (5, (2, 1)) := ⟨RX5, TX5, 4, rfl, by decide, izX5, rfl, Or.inl (z_mem 147 (by decide +kernel) (by decide +kernel)), fun _ => ⟨z_mem 147 (by decide +kernel) (by decide +kernel), rfl, ⟨tyX5, tyX5_ok⟩, nmX5, Or.inl ⟨rfl, by decide +kernel⟩⟩⟩
theorem f_Tp_22 : z_f1 RX5 22 (5, (3, 1)) := ⟨RX5, TX5, 4, rfl, by decide, izX5, rfl, Or.inl (z_mem 148 (by decide +kernel) (by decide +kernel)), fun _ => ⟨z_mem 148 (by decide +kernel) (by decide +kernel), rfl, ⟨tyX5, tyX5_ok⟩, nmX5, Or.inl ⟨rfl, by decide +kernel⟩⟩⟩
theorem fok_Tp : z_fok RX5 ft_Tp := List.forall_mem_cons.mpr ⟨f_Tp_9, List.forall_mem_cons.mpr ⟨f_Tp_15, List.forall_mem_cons.mpr ⟨f_Tp_19, List.forall_mem_cons.mpr ⟨f_Tp_22, fun _ h => absurd h List.not_mem_nil⟩⟩⟩⟩
def ct_Tp : List (Nat × Int) × List (Nat × Int) := ([], [])
theorem cok_Tp : z_cok RX5 ct_Tp := ⟨fun _ h => absurd h List.not_mem_nil, fun _ h => absurd h List.not_mem_nil⟩
theorem lk_Tp_25 : Cond.methodLink RX5 25 yX3_clear ∈ z_tbl := z_mem 324 (by decide +kernel) (by decide +kernel)
theorem lk_Tp_30 : Cond.methodLink RX5 30 yX5_begin ∈ z_tbl := z_mem 328 (by decide +kernel) (by decide +kernel)
theorem lk_Tp_33 : Cond.methodLink RX5 33 yX5_readDish ∈ z_tbl := z_mem 332 (by decide +kernel) (by decide +kernel)
theorem lk_Tp_37 : Cond.methodLink RX5 37 yX5_goesOn ∈ z_tbl := z_mem 364 (by decide +kernel) (by decide +kernel)
theorem lk_Tp_41 : Cond.methodLink RX5 41 yX0_clear ∈ z_tbl := z_mem 383 (by decide +kernel) (by decide +kernel)
theorem lk_Tp_44 : Cond.methodLink RX5 44 yX5_readGuest ∈ z_tbl := z_mem 387 (by decide +kernel) (by decide +kernel)
theorem lk_Tp_48 : Cond.methodLink RX5 48 yX5_skipBlanks ∈ z_tbl := z_mem 336 (by decide +kernel) (by decide +kernel)
theorem lk_Tp_51 : Cond.methodLink RX5 51 yX5_readNumber ∈ z_tbl := z_mem 340 (by decide +kernel) (by decide +kernel)
theorem lk_Tp_55 : Cond.methodLink RX5 55 yX3_weightOf ∈ z_tbl := z_mem 354 (by decide +kernel) (by decide +kernel)
theorem lk_Tp_59 : Cond.methodLink RX5 59 yX5_faultAt ∈ z_tbl := z_mem 350 (by decide +kernel) (by decide +kernel)
theorem lk_Tp_63 : Cond.methodLink RX5 63 yX5_readSign ∈ z_tbl := z_mem 355 (by decide +kernel) (by decide +kernel)
theorem lk_Tp_66 : Cond.methodLink RX5 66 yX3_putWeight ∈ z_tbl := z_mem 363 (by decide +kernel) (by decide +kernel)
theorem lk_Tp_70 : Cond.methodLink RX5 70 yX5_readKind ∈ z_tbl := z_mem 391 (by decide +kernel) (by decide +kernel)
theorem lk_Tp_74 : Cond.methodLink RX5 74 yX5_next ∈ z_tbl := z_mem 359 (by decide +kernel) (by decide +kernel)
theorem lk_Tp_77 : Cond.methodLink RX5 77 yX5_isFigure ∈ z_tbl := z_mem 344 (by decide +kernel) (by decide +kernel)
theorem lk_Tp_81 : Cond.methodLink RX5 81 yX0_seat ∈ z_tbl := z_mem 398 (by decide +kernel) (by decide +kernel)
theorem lk_Tp_84 : Cond.methodLink RX5 84 yX5_kindBy ∈ z_tbl := z_mem 395 (by decide +kernel) (by decide +kernel)
theorem lk_Tp_87 : Cond.methodLink RX5 87 (⟨"java/lang/Math", "min", "(II)I"⟩ : MethodName) ∈ z_tbl := z_mem 347 (by decide +kernel) (by decide +kernel)
def ft_Fp : List (Nat × (Nat × (Nat × Nat))) := [(12, (6, (0, 0))), (16, (6, (1, 0))), (19, (6, (2, 2))), (26, (6, (3, 0))), (33, (6, (4, 0))), (40, (6, (5, 0))), (46, (6, (6, 0))), (55, (4, (0, 0))), (66, (4, (1, 0))), (136, (4, (2, 0)))]
theorem f_Fp_12 : z_f1 RX6 12 (6, (0, 0)) := ⟨RX6, TX6, 7, rfl, by decide, izX6, rfl, Or.inl (z_mem 180 (by decide +kernel) (by decide +kernel)), fun h => absurd rfl h⟩
theorem f_Fp_16 : z_f1 RX6 16 (6, (1, 0)) := ⟨RX6, TX6, 7, rfl, by decide, izX6, rfl, Or.inl (z_mem 181 (by decide +kernel) (by decide +kernel)), fun h => absurd rfl h⟩
theorem f_Fp_19 : z_f1 RX6 19 (6, (2, 2)) := ⟨RX6, TX6, 7, rfl, by decide, izX6, rfl, Or.inl (z_mem 182 (by decide +kernel) (by decide +kernel)), fun _ => ⟨z_mem 182 (by decide +kernel) (by decide +kernel), rfl, ⟨tyX6, tyX6_ok⟩, nmX6, Or.inr ⟨rfl, by decide +kernel⟩⟩⟩
theorem f_Fp_26 : z_f1 RX6 26 (6, (3, 0)) := ⟨RX6, TX6, 7, rfl, by decide, izX6, rfl, Or.inl (z_mem 183 (by decide +kernel) (by decide +kernel)), fun h => absurd rfl h⟩
theorem f_Fp_33 : z_f1 RX6 33 (6, (4, 0)) := ⟨RX6, TX6, 7, rfl, by decide, izX6, rfl, Or.inl (z_mem 184 (by decide +kernel) (by decide +kernel)), fun h => absurd rfl h⟩
theorem f_Fp_40 : z_f1 RX6 40 (6, (5, 0)) := ⟨RX6, TX6, 7, rfl, by decide, izX6, rfl, Or.inl (z_mem 185 (by decide +kernel) (by decide +kernel)), fun h => absurd rfl h⟩
theorem f_Fp_46 : z_f1 RX6 46 (6, (6, 0)) := ⟨RX6, TX6, 7, rfl, by decide, izX6, rfl, Or.inl (z_mem 186 (by decide +kernel) (by decide +kernel)), fun h => absurd rfl h⟩
theorem f_Fp_55 : z_f1 RX6 55 (4, (0, 0)) := ⟨RX4, TX4, 3, rfl, by decide, izX4, rfl, Or.inr ⟨"FarthestPays", List.mem_of_getElem? (i := 4) (by decide +kernel)⟩, fun h => absurd rfl h⟩
theorem f_Fp_66 : z_f1 RX6 66 (4, (1, 0)) := ⟨RX4, TX4, 3, rfl, by decide, izX4, rfl, Or.inr ⟨"FarthestPays", List.mem_of_getElem? (i := 5) (by decide +kernel)⟩, fun h => absurd rfl h⟩
theorem f_Fp_136 : z_f1 RX6 136 (4, (2, 0)) := ⟨RX4, TX4, 3, rfl, by decide, izX4, rfl, Or.inr ⟨"FarthestPays", List.mem_of_getElem? (i := 6) (by decide +kernel)⟩, fun h => absurd rfl h⟩
theorem fok_Fp : z_fok RX6 ft_Fp := List.forall_mem_cons.mpr ⟨f_Fp_12, List.forall_mem_cons.mpr ⟨f_Fp_16, List.forall_mem_cons.mpr ⟨f_Fp_19, List.forall_mem_cons.mpr ⟨f_Fp_26, List.forall_mem_cons.mpr ⟨f_Fp_33, List.forall_mem_cons.mpr ⟨f_Fp_40, List.forall_mem_cons.mpr ⟨f_Fp_46, List.forall_mem_cons.mpr ⟨f_Fp_55, List.forall_mem_cons.mpr ⟨f_Fp_66, List.forall_mem_cons.mpr ⟨f_Fp_136, fun _ h => absurd h List.not_mem_nil⟩⟩⟩⟩⟩⟩⟩⟩⟩⟩
def ct_Fp : List (Nat × Int) × List (Nat × Int) := ([(254, -2097152)], [(158, 2520), (164, -1), (166, -2)])
theorem cok_Fp : z_cok RX6 ct_Fp := ⟨List.forall_mem_cons.mpr ⟨z_mem 561 (by decide +kernel) (by decide +kernel), fun _ h => absurd h List.not_mem_nil⟩, List.forall_mem_cons.mpr ⟨z_mem 462 (by decide +kernel) (by decide +kernel), List.forall_mem_cons.mpr ⟨z_mem 470 (by decide +kernel) (by decide +kernel), List.forall_mem_cons.mpr ⟨z_mem 471 (by decide +kernel) (by decide +kernel), fun _ h => absurd h List.not_mem_nil⟩⟩⟩⟩
theorem lk_Fp_51 : Cond.methodLink RX6 51 yX6_isSum ∈ z_tbl := z_mem 206 (by decide +kernel) (by decide +kernel)
theorem lk_Fp_58 : Cond.methodLink RX6 58 yX3_weightOf ∈ z_tbl := z_mem 209 (by decide +kernel) (by decide +kernel)
theorem lk_Fp_62 : Cond.methodLink RX6 62 yX3_putWeight ∈ z_tbl := z_mem 214 (by decide +kernel) (by decide +kernel)
theorem lk_Fp_69 : Cond.methodLink RX6 69 yX0_size ∈ z_tbl := z_mem 222 (by decide +kernel) (by decide +kernel)
theorem lk_Fp_73 : Cond.methodLink RX6 73 yX0_seat ∈ z_tbl := z_mem 226 (by decide +kernel) (by decide +kernel)
theorem lk_Fp_76 : Cond.methodLink RX6 76 yX0_has ∈ z_tbl := z_mem 234 (by decide +kernel) (by decide +kernel)
theorem lk_Fp_79 : Cond.methodLink RX6 79 yX0_isNought ∈ z_tbl := z_mem 238 (by decide +kernel) (by decide +kernel)
theorem lk_Fp_82 : Cond.methodLink RX6 82 yX0_slipOf ∈ z_tbl := z_mem 247 (by decide +kernel) (by decide +kernel)
theorem lk_Fp_85 : Cond.methodLink RX6 85 yX0_putSlip ∈ z_tbl := z_mem 251 (by decide +kernel) (by decide +kernel)
theorem lk_Fp_88 : Cond.methodLink RX6 88 yX3_together ∈ z_tbl := z_mem 259 (by decide +kernel) (by decide +kernel)
theorem lk_Fp_91 : Cond.methodLink RX6 91 yX3_meanSum ∈ z_tbl := z_mem 263 (by decide +kernel) (by decide +kernel)
theorem lk_Fp_94 : Cond.methodLink RX6 94 yX0_writeAlone ∈ z_tbl := z_mem 272 (by decide +kernel) (by decide +kernel)
theorem lk_Fp_98 : Cond.methodLink RX6 98 yX0_kindOf ∈ z_tbl := z_mem 285 (by decide +kernel) (by decide +kernel)
theorem lk_Fp_101 : Cond.methodLink RX6 101 yX0_changeWho ∈ z_tbl := z_mem 290 (by decide +kernel) (by decide +kernel)
theorem lk_Fp_104 : Cond.methodLink RX6 104 yX0_changeTies ∈ z_tbl := z_mem 294 (by decide +kernel) (by decide +kernel)
theorem lk_Fp_107 : Cond.methodLink RX6 107 yX6_isPrintable ∈ z_tbl := z_mem 302 (by decide +kernel) (by decide +kernel)
theorem lk_Fp_111 : Cond.methodLink RX6 111 yX5_size ∈ z_tbl := z_mem 308 (by decide +kernel) (by decide +kernel)
theorem lk_Fp_112 : Cond.methodLink RX6 112 yX6_byteOf ∈ z_tbl := z_mem 305 (by decide +kernel) (by decide +kernel)
theorem lk_Fp_116 : Cond.methodLink RX6 116 yX5_append ∈ z_tbl := z_mem 312 (by decide +kernel) (by decide +kernel)
theorem lk_Fp_120 : Cond.methodLink RX6 120 yX5_takeSupper ∈ z_tbl := z_mem 320 (by decide +kernel) (by decide +kernel)
theorem lk_Fp_124 : Cond.methodLink RX6 124 yX3_copyFrom ∈ z_tbl := z_mem 368 (by decide +kernel) (by decide +kernel)
theorem lk_Fp_128 : Cond.methodLink RX6 128 yX5_takeGuests ∈ z_tbl := z_mem 379 (by decide +kernel) (by decide +kernel)
theorem lk_Fp_132 : Cond.methodLink RX6 132 yX0_seatAll ∈ z_tbl := z_mem 399 (by decide +kernel) (by decide +kernel)
theorem lk_Fp_140 : Cond.methodLink RX6 140 yX1_clear ∈ z_tbl := z_mem 404 (by decide +kernel) (by decide +kernel)
theorem lk_Fp_145 : Cond.methodLink RX6 145 yX3_sumsOfWeight ∈ z_tbl := z_mem 412 (by decide +kernel) (by decide +kernel)
theorem lk_Fp_148 : Cond.methodLink RX6 148 yX1_size ∈ z_tbl := z_mem 416 (by decide +kernel) (by decide +kernel)
theorem lk_Fp_149 : Cond.methodLink RX6 149 yX0_payers ∈ z_tbl := z_mem 424 (by decide +kernel) (by decide +kernel)
theorem lk_Fp_152 : Cond.methodLink RX6 152 yX6_isPart ∈ z_tbl := z_mem 455 (by decide +kernel) (by decide +kernel)
theorem lk_Fp_155 : Cond.methodLink RX6 155 yX0_due ∈ z_tbl := z_mem 458 (by decide +kernel) (by decide +kernel)
theorem lk_Fp_160 : Cond.methodLink RX6 160 yX6_lowest ∈ z_tbl := z_mem 463 (by decide +kernel) (by decide +kernel)
theorem lk_Fp_168 : Cond.methodLink RX6 168 yX4_burden ∈ z_tbl := z_mem 472 (by decide +kernel) (by decide +kernel)
theorem lk_Fp_172 : Cond.methodLink RX6 172 yX4_lightestSlip ∈ z_tbl := z_mem 483 (by decide +kernel) (by decide +kernel)
theorem lk_Fp_175 : Cond.methodLink RX6 175 yX4_nobodyWouldChange ∈ z_tbl := z_mem 500 (by decide +kernel) (by decide +kernel)
theorem lk_Fp_179 : Cond.methodLink RX6 179 yX4_takeTurns ∈ z_tbl := z_mem 519 (by decide +kernel) (by decide +kernel)
theorem lk_Fp_182 : Cond.methodLink RX6 182 yX6_areThree ∈ z_tbl := z_mem 527 (by decide +kernel) (by decide +kernel)
theorem lk_Fp_186 : Cond.methodLink RX6 186 yX4_wholeBurden ∈ z_tbl := z_mem 531 (by decide +kernel) (by decide +kernel)
theorem lk_Fp_190 : Cond.methodLink RX6 190 yX4_hardestPair ∈ z_tbl := z_mem 532 (by decide +kernel) (by decide +kernel)
theorem lk_Fp_194 : Cond.methodLink RX6 194 yX4_safestSlip ∈ z_tbl := z_mem 545 (by decide +kernel) (by decide +kernel)
theorem lk_Fp_198 : Cond.methodLink RX6 198 yX6_isSetOfSums ∈ z_tbl := z_mem 558 (by decide +kernel) (by decide +kernel)
theorem lk_Fp_201 : Cond.methodLink RX6 201 (⟨"java/lang/Integer", "bitCount", "(I)I"⟩ : MethodName) ∈ z_tbl := z_mem 566 (by decide +kernel) (by decide +kernel)
theorem lk_Fp_206 : Cond.methodLink RX6 206 yX1_append ∈ z_tbl := z_mem 576 (by decide +kernel) (by decide +kernel)
theorem lk_Fp_209 : Cond.methodLink RX6 209 yX1_knowers ∈ z_tbl := z_mem 589 (by decide +kernel) (by decide +kernel)
theorem lk_Fp_212 : Cond.methodLink RX6 212 yX1_pairsAgainst ∈ z_tbl := z_mem 603 (by decide +kernel) (by decide +kernel)
theorem lk_Fp_215 : Cond.methodLink RX6 215 yX1_firstPairAgainst ∈ z_tbl := z_mem 621 (by decide +kernel) (by decide +kernel)
theorem lk_Fp_218 : Cond.methodLink RX6 218 yX4_copyFrom ∈ z_tbl := z_mem 633 (by decide +kernel) (by decide +kernel)
theorem lk_Fp_221 : Cond.methodLink RX6 221 yX6_isSheet ∈ z_tbl := z_mem 651 (by decide +kernel) (by decide +kernel)
theorem lk_Fp_224 : Cond.methodLink RX6 224 yX6_isLane ∈ z_tbl := z_mem 654 (by decide +kernel) (by decide +kernel)
theorem lk_Fp_227 : Cond.methodLink RX6 227 yX2_refusal ∈ z_tbl := z_mem 657 (by decide +kernel) (by decide +kernel)
theorem lk_Fp_230 : Cond.methodLink RX6 230 yX2_weightsTogether ∈ z_tbl := z_mem 665 (by decide +kernel) (by decide +kernel)
theorem lk_Fp_234 : Cond.methodLink RX6 234 yX2_itemAt ∈ z_tbl := z_mem 675 (by decide +kernel) (by decide +kernel)
theorem lk_Fp_237 : Cond.methodLink RX6 237 yX4_burdenBy ∈ z_tbl := z_mem 676 (by decide +kernel) (by decide +kernel)
theorem lk_Fp_240 : Cond.methodLink RX6 240 yX2_begin ∈ z_tbl := z_mem 681 (by decide +kernel) (by decide +kernel)
theorem lk_Fp_243 : Cond.methodLink RX6 243 yX2_isMissing ∈ z_tbl := z_mem 689 (by decide +kernel) (by decide +kernel)
theorem lk_Fp_246 : Cond.methodLink RX6 246 yX2_size ∈ z_tbl := z_mem 690 (by decide +kernel) (by decide +kernel)
theorem lk_Fp_247 : Cond.methodLink RX6 247 yX2_end ∈ z_tbl := z_mem 694 (by decide +kernel) (by decide +kernel)
theorem lk_Fp_250 : Cond.methodLink RX6 250 yX2_put ∈ z_tbl := z_mem 702 (by decide +kernel) (by decide +kernel)
