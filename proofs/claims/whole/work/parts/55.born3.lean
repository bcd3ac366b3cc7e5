/-! CONSTRUCTORS: table, the class -/
theorem zD_nd {A : Nat → Prop} {L : va_W} : va_D A L ↔ ((L.map (fun q => q.1)).Nodup ∧ ∀ q ∈ L, A q.1) := by
  constructor
  · intro h
    refine ⟨List.nodup_iff_pairwise_ne.mpr (List.pairwise_iff_getElem.mpr fun i j hi hj hij e => ?_), fun q hq => ?_⟩
    · rw [List.getElem_map, List.getElem_map] at e
      have hi2 : i < L.length := by rw [List.length_map] at hi; exact hi
      have hj2 : j < L.length := by rw [List.length_map] at hj; exact hj
      have := h.1 i j _ _ (List.getElem?_eq_getElem hi2) (List.getElem?_eq_getElem hj2) e
      omega
    · obtain ⟨k, hk⟩ := List.getElem?_of_mem hq
      exact h.2 k q hk
  · rintro ⟨h1, h2⟩
    refine ⟨fun i j p q hp hq e => ?_, fun k q hk => h2 q (List.mem_of_getElem? hk)⟩
    have hi : i < (L.map (fun q => q.1)).length := by rw [List.length_map]; exact (List.getElem?_eq_some_iff.mp hp).1
    refine (List.getElem?_inj hi h1).mp ?_
    rw [List.getElem?_map, List.getElem?_map, hp, hq]
    exact congrArg some e
theorem zSwP {D : va_G} {a r : Nat × va_E} {M : va_W} {H : Heap} (h : va_P D classes ((a :: M) ++ [r]) H) : va_P D classes (a :: r :: M) H := by
  have h1 := zP_l h
  have h2 := zP_r h
  exact zP_c (h1 0 a rfl) (zP_c (h2 0 r rfl) (fun k q hk => h1 (k + 1) q hk))
theorem zSwD {A : Nat → Prop} {a r : Nat × va_E} {M : va_W} (h : va_D A ((a :: M) ++ [r])) : va_D A (a :: r :: M) := by
  rw [zD_nd] at h ⊢
  have hp : (a :: r :: M).Perm ((a :: M) ++ [r]) := List.Perm.cons a (List.perm_append_comm (l₁ := [r]) (l₂ := M))
  exact ⟨(hp.map (fun q => q.1)).nodup_iff.mpr h.1, fun q hq => h.2 q (hp.mem_iff.mp hq)⟩
def zClb (N : Nat) : zC → Bool
  | .inl o => o.2.all (fun v => match v with | .inr (.inr k) => Nat.blt k N | _ => true)
  | .inr (_, (_, .inr (.inr _))) => false
  | _ => true
theorem zClb_ok {N : Nat} {c : zC} (h : zClb N c = true) : zCl N c := by
  rcases c with ⟨ci, fs⟩ | ⟨t, n, f | f | f⟩
  · intro v hv
    have h1 := List.all_eq_true.mp h v hv
    rcases v with x | x | x
    · trivial
    · trivial
    · have h2 : Nat.blt x N = true := h1
      exact Nat.le_of_ble_eq_true h2
  · trivial
  · trivial
  · cases h
theorem cl_Ni : ∀ c ∈ wNi (fun _ => 0) (fun _ => zC0) 0, zCl 39 c := List.forall_mem_cons.mpr ⟨zClb_ok rfl, List.forall_mem_cons.mpr ⟨zClb_ok rfl, List.forall_mem_cons.mpr ⟨fun j hj => by show 3 + 3 * ((j : Int)).toNat < 39; omega, fun c hc => zClb_ok (List.all_eq_true.mp (rfl : (zCos (fun _ => zC0)).all (zClb 39) = true) c hc)⟩⟩⟩
theorem cl_Ta : ∀ c ∈ zTA (fun _ => 0) (fun _ => 0) (fun _ => 0) 0 0 0 (fun _ => 0) (fun _ => zC0) 0, zCl 45 c := by
  intro c hc
  rcases List.mem_append.mp hc with h | h
  · exact zClb_ok (List.all_eq_true.mp (rfl : (wTa (fun _ => 0) (fun _ => 0) (fun _ => 0) 0 0 0).all (zClb 45) = true) c h)
  · obtain ⟨d, hd, rfl⟩ := List.mem_map.mp h
    have h39 := cl_Ni d hd
    have hpl : ∀ k, z_pl (List.range' 6 39) k = 6 + k := fun k => z_pl_range 38 6 k
    rcases d with ⟨ci, fs⟩ | ⟨t, n, f | f | f⟩
    · intro v hv
      obtain ⟨u, hu, rfl⟩ := List.mem_map.mp hv
      have h1 := h39 u hu
      rcases u with x | x | x
      · trivial
      · trivial
      · show z_pl (List.range' 6 39) x < 45
        have h2 : x < 39 := h1
        rw [hpl]; omega
    · trivial
    · trivial
    · intro j hj
      show z_pl (List.range' 6 39) (f (j : Int)) < 45
      have h2 : f (j : Int) < 39 := h39 j hj
      rw [hpl]; omega
set_option maxHeartbeats 4000000 in
set_option maxRecDepth 100000 in
theorem c_Ta_init : zInit yX4_init cX4_init 1 3 53 44 348 4 [.null, .null, .null] (zTA (fun _ => 0) (fun _ => 0) (fun _ => 0) 0 0 0 (fun _ => 0) (fun _ => zC0) 0) := by
  intro l D cA h0 sz
  refine Met.ofW (cc := cX4_init) (maxL := 1) (ret := none) (by decide +kernel) rfl ?_
  intro p e s m args below meth c s₁ B hml hv
  obtain ⟨rfl, hsz, hP, hK, hN, hO, hD0⟩ := hv
  have hx := B.exec
  have hb := B.bytes
  have hr := B.returns
  have hts0 := atoms_spec (ws := Cond.code yX4_init cX4_init 1 none :: z_tbl) B.pre
  have hts : ∀ w ∈ z_tbl, w.before ([.ref h0] : List Value).toArray s = true := fun w hw => hts0 w (List.mem_cons_of_mem _ hw)
  have hown : s.vm.findClass RX4 = some m.cls := findClass_of_methodNamed B.named
  have hlocks := B.notSynchronized
  have hin : meth.name = "<init>" := (name_of_methodNamed B.named B.method).1
  subst hsz
  have hD := hD0.self (sz := s.heap.size)
  generalize hAe : va_A [(h0, .inr (4, [.null, .null, .null]))] s.heap.size = A at hD ⊢
  have hA : ∀ q : Nat, s.heap.size ≤ q → A q := fun q h => by rw [← hAe]; exact Or.inr h
  have hS : va_S A s.heap s.heap [] := va_S.rf
  have hP : va_P D classes [(h0, .inr (4, [.null, .null, .null]))] s.heap := hP
  have hl := lv_entry ([.ref h0]) (n := 1) (Nat.le_of_ble_eq_true rfl)
  rw [lg_entry_eq]
  generalize (lg_sl ([.ref h0]) ++ List.replicate (1 - (lg_sl ([.ref h0])).length) Slot.unset).toArray = ls at hl ⊢
  have hl : lv_has ls 1 [(0, .ref h0)] := hl
  refine lv_aload_n hx hb dX4_init_0 rfl (lv_at hl 0 rfl) ?_
  refine W.objInit hx hb hown (hts (.methodLink RX4 3 objectInit) (z_mem 73 (by decide +kernel) (by decide +kernel))) (hts (.instanceMethod objectInit) (z_mem 66 (by decide +kernel) (by decide +kernel))) (hts (.code objectInit ⟨#[0xb1]⟩ 1 none) (z_mem 67 (by decide +kernel) (by decide +kernel))) rfl (by rw [hml]; exact hl.1) rfl dX4_init_1 (Nat.le_of_ble_eq_true rfl) (Nat.le_of_ble_eq_true rfl) ?_
  refine W.eq (g2 := F0 m 4 ls []) rfl ?_
  refine lv_aload_n hx hb dX4_init_4 rfl (lv_at hl 0 rfl) ?_
  refine va_new (ci := 3) (fs := [.null]) (C := RX3) (T := TX3) (N := 1) hx hb hts izX3 tyX3 tyX3_ok hown (hts (.classLink RX4 9 RX3) (z_mem 74 (by decide +kernel) (by decide +kernel))) (hts (.instantiable RX3 1) (z_mem 75 (by decide +kernel) (by decide +kernel))) (hts (.initialized RX3) (z_mem 51 (by decide +kernel) (by decide +kernel))) hK hP hD hS hA rfl (fun j hj => by rcases (show j = 0 by omega) with rfl <;> rfl) (Nat.le_of_ble_eq_true rfl) (Nat.le_of_ble_eq_true rfl) dX4_init_5 (fun q1 H hP hD hS => ?_)
  refine W.widen (k := 1) (n := 1) (Nat.le_of_ble_eq_true rfl) (Nat.le_of_ble_eq_true rfl) ?_
  refine lv_dup hx hb dX4_init_8 rfl ?_
  refine zCallI (L := ([(h0, .inr (4, [.null, .null, .null]))] : va_W)) hx hb hml hown hts hK hN hO c_Su_init yI_Su (i := 11) (Or.inr ⟨"FarthestPays", List.mem_of_getElem? (i := 1) (by decide +kernel)⟩) ⟨Nat.le_of_ble_eq_true rfl, Nat.le_of_ble_eq_true rfl⟩ ⟨Nat.le_of_ble_eq_true rfl, Nat.le_of_ble_eq_true rfl⟩ hP hD hS hA hl.1 (Nat.le_of_ble_eq_true rfl) dX4_init_9 (fun ad1 H locs e1 hP hD hS => ?_)
  refine W.widen (k := 2) (n := 22) (Nat.le_of_ble_eq_true rfl) (Nat.le_of_ble_eq_true rfl) ?_
  rw [← e1]
  have hP : va_P D classes (([(h0, .inr (4, [.null, .null, .null]))] : va_W) ++ z_wr ad1 cA 0 (wSu (fun _ => 0))) H := hP
  have hD : va_D A (([(h0, .inr (4, [.null, .null, .null]))] : va_W) ++ z_wr ad1 cA 0 (wSu (fun _ => 0))) := hD
  refine va_putF (D := D) (ci := 4) (v := (.ref (ad1 0))) (ty := (.object "FarthestPays$Supper")) (C := RX4) (T := TX4) (N := 3) hx hb hts izX4 tyX4 tyX4_ok nmX4 hown hK hP hD hS 0 rfl rfl 0 (by decide) (hts (.fieldLink RX4 12 "FarthestPays$Table" "supper" "LFarthestPays$Supper;") (z_mem 126 (by decide +kernel) (by decide +kernel))) (fun _ h9 => h9) rfl hin rfl (by decide +kernel) rfl rfl (Nat.le_of_ble_eq_true rfl) dX4_init_12 (fun H locs hP hD hS => ?_)
  have hP : va_P D classes (([(h0, .inr (4, [.ref (ad1 0), .null, .null]))] : va_W) ++ z_wr ad1 cA 0 (wSu (fun _ => 0))) H := hP
  have hD : va_D A (([(h0, .inr (4, [.ref (ad1 0), .null, .null]))] : va_W) ++ z_wr ad1 cA 0 (wSu (fun _ => 0))) := hD
  refine lv_aload_n hx hb dX4_init_15 rfl (lv_at hl 0 rfl) ?_
  refine va_new (ci := 0) (fs := [.null, .null, .int 0, .int 0, .int 0]) (C := RX0) (T := TX0) (N := 5) hx hb hts izX0 tyX0 tyX0_ok hown (hts (.classLink RX4 18 RX0) (z_mem 85 (by decide +kernel) (by decide +kernel))) (hts (.instantiable RX0 5) (z_mem 86 (by decide +kernel) (by decide +kernel))) (hts (.initialized RX0) (z_mem 52 (by decide +kernel) (by decide +kernel))) hK hP hD hS hA rfl (fun j hj => by rcases (show j = 0 ∨ j = 1 ∨ j = 2 ∨ j = 3 ∨ j = 4 by omega) with rfl | rfl | rfl | rfl | rfl <;> rfl) (Nat.le_of_ble_eq_true rfl) (Nat.le_of_ble_eq_true rfl) dX4_init_16 (fun q2 H hP hD hS => ?_)
  refine W.widen (k := 3) (n := 27) (Nat.le_of_ble_eq_true rfl) (Nat.le_of_ble_eq_true rfl) ?_
  refine lv_dup hx hb dX4_init_19 rfl ?_
  refine zCallI (L := (([(h0, .inr (4, [.ref (ad1 0), .null, .null]))] : va_W) ++ z_wr ad1 cA 0 (wSu (fun _ => 0)))) hx hb hml hown hts hK hN hO c_Co_init yI_Co (i := 20) (Or.inr ⟨"FarthestPays", List.mem_of_getElem? (i := 2) (by decide +kernel)⟩) ⟨Nat.le_of_ble_eq_true rfl, Nat.le_of_ble_eq_true rfl⟩ ⟨Nat.le_of_ble_eq_true rfl, Nat.le_of_ble_eq_true rfl⟩ hP hD hS hA hl.1 (Nat.le_of_ble_eq_true rfl) dX4_init_20 (fun ad2 H locs e2 hP hD hS => ?_)
  refine W.widen (k := 5) (n := 45) (Nat.le_of_ble_eq_true rfl) (Nat.le_of_ble_eq_true rfl) ?_
  rw [← e2]
  have hP : va_P D classes ((([(h0, .inr (4, [.ref (ad1 0), .null, .null]))] : va_W) ++ z_wr ad1 cA 0 (wSu (fun _ => 0))) ++ z_wr ad2 cA 0 (wCo (fun _ => 0) (fun _ => 0) 0 0 0)) H := hP
  have hD : va_D A ((([(h0, .inr (4, [.ref (ad1 0), .null, .null]))] : va_W) ++ z_wr ad1 cA 0 (wSu (fun _ => 0))) ++ z_wr ad2 cA 0 (wCo (fun _ => 0) (fun _ => 0) 0 0 0)) := hD
  refine va_putF (D := D) (ci := 4) (v := (.ref (ad2 0))) (ty := (.object "FarthestPays$Company")) (C := RX4) (T := TX4) (N := 3) hx hb hts izX4 tyX4 tyX4_ok nmX4 hown hK hP hD hS 0 rfl rfl 1 (by decide) (hts (.fieldLink RX4 21 "FarthestPays$Table" "company" "LFarthestPays$Company;") (z_mem 128 (by decide +kernel) (by decide +kernel))) (fun _ h9 => h9) rfl hin rfl (by decide +kernel) rfl rfl (Nat.le_of_ble_eq_true rfl) dX4_init_23 (fun H locs hP hD hS => ?_)
  have hP : va_P D classes ((([(h0, .inr (4, [.ref (ad1 0), .ref (ad2 0), .null]))] : va_W) ++ z_wr ad1 cA 0 (wSu (fun _ => 0))) ++ z_wr ad2 cA 0 (wCo (fun _ => 0) (fun _ => 0) 0 0 0)) H := hP
  have hD : va_D A ((([(h0, .inr (4, [.ref (ad1 0), .ref (ad2 0), .null]))] : va_W) ++ z_wr ad1 cA 0 (wSu (fun _ => 0))) ++ z_wr ad2 cA 0 (wCo (fun _ => 0) (fun _ => 0) 0 0 0)) := hD
  refine lv_aload_n hx hb dX4_init_26 rfl (lv_at hl 0 rfl) ?_
  refine va_new (ci := 1) (fs := [.null, .null, .int 0]) (C := RX1) (T := TX1) (N := 3) hx hb hts izX1 tyX1 tyX1_ok hown (hts (.classLink RX4 25 RX1) (z_mem 107 (by decide +kernel) (by decide +kernel))) (hts (.instantiable RX1 3) (z_mem 108 (by decide +kernel) (by decide +kernel))) (hts (.initialized RX1) (z_mem 53 (by decide +kernel) (by decide +kernel))) hK hP hD hS hA rfl (fun j hj => by rcases (show j = 0 ∨ j = 1 ∨ j = 2 by omega) with rfl | rfl | rfl <;> rfl) (Nat.le_of_ble_eq_true rfl) (Nat.le_of_ble_eq_true rfl) dX4_init_27 (fun q3 H hP hD hS => ?_)
  refine W.widen (k := 6) (n := 48) (Nat.le_of_ble_eq_true rfl) (Nat.le_of_ble_eq_true rfl) ?_
  refine lv_dup hx hb dX4_init_30 rfl ?_
  refine zCallI (L := ((([(h0, .inr (4, [.ref (ad1 0), .ref (ad2 0), .null]))] : va_W) ++ z_wr ad1 cA 0 (wSu (fun _ => 0))) ++ z_wr ad2 cA 0 (wCo (fun _ => 0) (fun _ => 0) 0 0 0))) hx hb hml hown hts hK hN hO c_Ni_init yI_Ni (i := 27) (Or.inl (z_mem 109 (by decide +kernel) (by decide +kernel))) ⟨Nat.le_of_ble_eq_true rfl, Nat.le_of_ble_eq_true rfl⟩ ⟨Nat.le_of_ble_eq_true rfl, Nat.le_of_ble_eq_true rfl⟩ hP hD hS hA hl.1 (Nat.le_of_ble_eq_true rfl) dX4_init_31 (fun ad3 H locs e3 hP hD hS => ?_)
  refine W.widen (k := 44) (n := 348) (Nat.le_of_ble_eq_true rfl) (Nat.le_of_ble_eq_true rfl) ?_
  rw [← e3]
  have hP : va_P D classes (((([(h0, .inr (4, [.ref (ad1 0), .ref (ad2 0), .null]))] : va_W) ++ z_wr ad1 cA 0 (wSu (fun _ => 0))) ++ z_wr ad2 cA 0 (wCo (fun _ => 0) (fun _ => 0) 0 0 0)) ++ z_wr ad3 cA 0 (wNi (fun _ => 0) (fun _ => zC0) 0)) H := hP
  have hD : va_D A (((([(h0, .inr (4, [.ref (ad1 0), .ref (ad2 0), .null]))] : va_W) ++ z_wr ad1 cA 0 (wSu (fun _ => 0))) ++ z_wr ad2 cA 0 (wCo (fun _ => 0) (fun _ => 0) 0 0 0)) ++ z_wr ad3 cA 0 (wNi (fun _ => 0) (fun _ => zC0) 0)) := hD
  refine va_putF (D := D) (ci := 4) (v := (.ref (ad3 0))) (ty := (.object "FarthestPays$Nights")) (C := RX4) (T := TX4) (N := 3) hx hb hts izX4 tyX4 tyX4_ok nmX4 hown hK hP hD hS 0 rfl rfl 2 (by decide) (hts (.fieldLink RX4 28 "FarthestPays$Table" "nights" "LFarthestPays$Nights;") (z_mem 130 (by decide +kernel) (by decide +kernel))) (fun _ h9 => h9) rfl hin rfl (by decide +kernel) rfl rfl (Nat.le_of_ble_eq_true rfl) dX4_init_34 (fun H locs hP hD hS => ?_)
  have hP : va_P D classes (((([(h0, .inr (4, [.ref (ad1 0), .ref (ad2 0), .ref (ad3 0)]))] : va_W) ++ z_wr ad1 cA 0 (wSu (fun _ => 0))) ++ z_wr ad2 cA 0 (wCo (fun _ => 0) (fun _ => 0) 0 0 0)) ++ z_wr ad3 cA 0 (wNi (fun _ => 0) (fun _ => zC0) 0)) H := hP
  have hD : va_D A (((([(h0, .inr (4, [.ref (ad1 0), .ref (ad2 0), .ref (ad3 0)]))] : va_W) ++ z_wr ad1 cA 0 (wSu (fun _ => 0))) ++ z_wr ad2 cA 0 (wCo (fun _ => 0) (fun _ => 0) 0 0 0)) ++ z_wr ad3 cA 0 (wNi (fun _ => 0) (fun _ => zC0) 0)) := hD
  obtain ⟨ad, had⟩ : ∃ f : Nat → Nat, f = fun k => if k = 0 then h0 else if k < 3 then ad1 (k - 1) else if k < 6 then ad2 (k - 3) else ad3 (k - 6) := ⟨_, rfl⟩
  have a0 : ad 0 = h0 := by rw [had]; rfl
  have a1 : ad 1 = ad1 0 := by rw [had]; rfl
  have a2 : ad 2 = ad1 1 := by rw [had]; rfl
  have a3 : ad 3 = ad2 0 := by rw [had]; rfl
  have a4 : ad 4 = ad2 1 := by rw [had]; rfl
  have a5 : ad 5 = ad2 2 := by rw [had]; rfl
  have a6 : ∀ k, ad (6 + k) = ad3 k := fun k => by
    rw [had]
    show (if 6 + k = 0 then h0 else if 6 + k < 3 then ad1 (6 + k - 1) else if 6 + k < 6 then ad2 (6 + k - 3) else ad3 (6 + k - 6)) = _
    rw [if_neg (by omega), if_neg (by omega), if_neg (by omega), Nat.add_sub_cancel_left]
  have a60 : ad 6 = ad3 0 := a6 0
  have hP6 : va_P D classes (z_wr ad cA 0 (wTa (fun _ => 0) (fun _ => 0) (fun _ => 0) 0 0 0)) H := by
    show va_P D classes [(ad 0, .inr (4, [.ref (ad 1), .ref (ad 3), .ref (ad 6)])), (ad 1, .inr (3, [.ref (ad 2)])), (ad 2, .inl (cA 0, (21, .inl (fun _ => 0)))), (ad 3, .inr (0, [.ref (ad 4), .ref (ad 5), .int 0, .int 0, .int 0])), (ad 4, .inl (cA 0, (9, .inl (fun _ => 0)))), (ad 5, .inl (cA 0, (9, .inl (fun _ => 0))))] H
    rw [a0, a1, a2, a3, a4, a5, a60]
    exact zP_l hP
  have hP9 : va_P D classes (z_wr ad cA 0 (zTA (fun _ => 0) (fun _ => 0) (fun _ => 0) 0 0 0 (fun _ => 0) (fun _ => zC0) 0)) H := zP_wapp hP6 (zP_seg (o := 6) (n := 38) (fun k _ => a6 k) cl_Ni (Nat.le_of_ble_eq_true rfl) (zP_r hP))
  have hD9 : va_D A (z_wr ad cA 0 (zTA (fun _ => 0) (fun _ => 0) (fun _ => 0) 0 0 0 (fun _ => 0) (fun _ => zC0) 0)) := by
    refine zD_fst hD ?_
    rw [z_wr_fst, List.map_append, List.map_append, List.map_append, z_wr_fst, z_wr_fst, z_wr_fst]
    show ad 0 :: ad 1 :: ad 2 :: ad 3 :: ad 4 :: ad 5 :: (List.range' 6 39).map ad = h0 :: ad1 0 :: ad1 1 :: ad2 0 :: ad2 1 :: ad2 2 :: (List.range' 0 39).map ad3
    rw [a0, a1, a2, a3, a4, a5, z_rg_map (f := ad) (h := ad3) 39 6 0 (fun k _ => by rw [Nat.zero_add]; exact a6 k)]
  exact W.vret hx hb hr (fun t ht hW => ⟨⟨ad, rfl, trivial, a0, by rw [ht]; exact hP9, hD9⟩, hS.F ht⟩) hS.2.2 dX4_init_37
set_option maxHeartbeats 8000000 in
set_option maxRecDepth 100000 in
theorem c_Fp_init : zInit yX6_init cX6_init 2 4 73 106 943 6 [.null, .null, .int 0, .null, .null, .null, .null] (zRoot 0 :: ((zTA (fun _ => 0) (fun _ => 0) (fun _ => 0) 0 0 0 (fun _ => 0) (fun _ => zC0) 0).map (z_ren (List.range' 1 45)) ++ ((zTA (fun _ => 0) (fun _ => 0) (fun _ => 0) 0 0 0 (fun _ => 0) (fun _ => zC0) 0).map (z_ren (List.range' 46 45)) ++ zTs (fun _ => 0) 0 0 0 (fun _ => 0) zC0 (fun _ => ((fun _ => 0), (0, -1)))))) := by
  intro l D cA h0 sz
  refine Met.ofW (cc := cX6_init) (maxL := 2) (ret := none) (by decide +kernel) rfl ?_
  intro p e s m args below meth c s₁ B hml hv
  obtain ⟨rfl, hsz, hP, hK, hN, hO, hD0⟩ := hv
  have hx := B.exec
  have hb := B.bytes
  have hr := B.returns
  have hts0 := atoms_spec (ws := Cond.code yX6_init cX6_init 2 none :: z_tbl) B.pre
  have hts : ∀ w ∈ z_tbl, w.before ([.ref h0] : List Value).toArray s = true := fun w hw => hts0 w (List.mem_cons_of_mem _ hw)
  have hown : s.vm.findClass RX6 = some m.cls := findClass_of_methodNamed B.named
  have hlocks := B.notSynchronized
  have hin : meth.name = "<init>" := (name_of_methodNamed B.named B.method).1
  subst hsz
  have hD := hD0.self (sz := s.heap.size)
  generalize hAe : va_A [(h0, .inr (6, [.null, .null, .int 0, .null, .null, .null, .null]))] s.heap.size = A at hD ⊢
  have hA : ∀ q : Nat, s.heap.size ≤ q → A q := fun q h => by rw [← hAe]; exact Or.inr h
  have hS : va_S A s.heap s.heap [] := va_S.rf
  have hP : va_P D classes [(h0, .inr (6, [.null, .null, .int 0, .null, .null, .null, .null]))] s.heap := hP
  have hl := lv_entry ([.ref h0]) (n := 2) (Nat.le_of_ble_eq_true rfl)
  rw [lg_entry_eq]
  generalize (lg_sl ([.ref h0]) ++ List.replicate (2 - (lg_sl ([.ref h0])).length) Slot.unset).toArray = ls at hl ⊢
  have hl : lv_has ls 2 [(0, .ref h0)] := hl
  refine lv_aload_n hx hb dX6_init_0 rfl (lv_at hl 0 rfl) ?_
  refine W.objInit hx hb hown (hts (.methodLink RX6 3 objectInit) (z_mem 65 (by decide +kernel) (by decide +kernel))) (hts (.instanceMethod objectInit) (z_mem 66 (by decide +kernel) (by decide +kernel))) (hts (.code objectInit ⟨#[0xb1]⟩ 1 none) (z_mem 67 (by decide +kernel) (by decide +kernel))) rfl (by rw [hml]; exact hl.1) rfl dX6_init_1 (Nat.le_of_ble_eq_true rfl) (Nat.le_of_ble_eq_true rfl) ?_
  refine W.eq (g2 := F0 m 4 ls []) rfl ?_
  refine lv_aload_n hx hb dX6_init_4 rfl (lv_at hl 0 rfl) ?_
  refine va_new (ci := 4) (fs := [.null, .null, .null]) (C := RX4) (T := TX4) (N := 3) hx hb hts izX4 tyX4 tyX4_ok hown (hts (.classLink RX6 9 RX4) (z_mem 68 (by decide +kernel) (by decide +kernel))) (hts (.instantiable RX4 3) (z_mem 69 (by decide +kernel) (by decide +kernel))) (hts (.initialized RX4) (z_mem 50 (by decide +kernel) (by decide +kernel))) hK hP hD hS hA rfl (fun j hj => by rcases (show j = 0 ∨ j = 1 ∨ j = 2 by omega) with rfl | rfl | rfl <;> rfl) (Nat.le_of_ble_eq_true rfl) (Nat.le_of_ble_eq_true rfl) dX6_init_5 (fun q1 H hP hD hS => ?_)
  refine W.widen (k := 1) (n := 3) (Nat.le_of_ble_eq_true rfl) (Nat.le_of_ble_eq_true rfl) ?_
  refine lv_dup hx hb dX6_init_8 rfl ?_
  refine zCallI (L := ([(h0, .inr (6, [.null, .null, .int 0, .null, .null, .null, .null]))] : va_W)) hx hb hml hown hts hK hN hO c_Ta_init yI_Ta (i := 11) (Or.inr ⟨"FarthestPays", List.mem_of_getElem? (i := 0) (by decide +kernel)⟩) ⟨Nat.le_of_ble_eq_true rfl, Nat.le_of_ble_eq_true rfl⟩ ⟨Nat.le_of_ble_eq_true rfl, Nat.le_of_ble_eq_true rfl⟩ hP hD hS hA hl.1 (Nat.le_of_ble_eq_true rfl) dX6_init_9 (fun ad1 H locs e1 hP hD hS => ?_)
  refine W.widen (k := 45) (n := 351) (Nat.le_of_ble_eq_true rfl) (Nat.le_of_ble_eq_true rfl) ?_
  rw [← e1]
  have hP : va_P D classes (([(h0, .inr (6, [.null, .null, .int 0, .null, .null, .null, .null]))] : va_W) ++ z_wr ad1 cA 0 (zTA (fun _ => 0) (fun _ => 0) (fun _ => 0) 0 0 0 (fun _ => 0) (fun _ => zC0) 0)) H := hP
  have hD : va_D A (([(h0, .inr (6, [.null, .null, .int 0, .null, .null, .null, .null]))] : va_W) ++ z_wr ad1 cA 0 (zTA (fun _ => 0) (fun _ => 0) (fun _ => 0) 0 0 0 (fun _ => 0) (fun _ => zC0) 0)) := hD
  refine va_putF (D := D) (ci := 6) (v := (.ref (ad1 0))) (ty := (.object "FarthestPays$Table")) (C := RX6) (T := TX6) (N := 7) hx hb hts izX6 tyX6 tyX6_ok nmX6 hown hK hP hD hS 0 rfl rfl 0 (by decide) (hts (.fieldLink RX6 12 "FarthestPays" "now" "LFarthestPays$Table;") (z_mem 180 (by decide +kernel) (by decide +kernel))) (fun _ h9 => h9) rfl hin rfl (by decide +kernel) rfl rfl (Nat.le_of_ble_eq_true rfl) dX6_init_12 (fun H locs hP hD hS => ?_)
  have hP : va_P D classes (([(h0, .inr (6, [.ref (ad1 0), .null, .int 0, .null, .null, .null, .null]))] : va_W) ++ z_wr ad1 cA 0 (zTA (fun _ => 0) (fun _ => 0) (fun _ => 0) 0 0 0 (fun _ => 0) (fun _ => zC0) 0)) H := hP
  have hD : va_D A (([(h0, .inr (6, [.ref (ad1 0), .null, .int 0, .null, .null, .null, .null]))] : va_W) ++ z_wr ad1 cA 0 (zTA (fun _ => 0) (fun _ => 0) (fun _ => 0) 0 0 0 (fun _ => 0) (fun _ => zC0) 0)) := hD
  refine lv_aload_n hx hb dX6_init_15 rfl (lv_at hl 0 rfl) ?_
  refine va_new (ci := 4) (fs := [.null, .null, .null]) (C := RX4) (T := TX4) (N := 3) hx hb hts izX4 tyX4 tyX4_ok hown (hts (.classLink RX6 9 RX4) (z_mem 68 (by decide +kernel) (by decide +kernel))) (hts (.instantiable RX4 3) (z_mem 69 (by decide +kernel) (by decide +kernel))) (hts (.initialized RX4) (z_mem 50 (by decide +kernel) (by decide +kernel))) hK hP hD hS hA rfl (fun j hj => by rcases (show j = 0 ∨ j = 1 ∨ j = 2 by omega) with rfl | rfl | rfl <;> rfl) (Nat.le_of_ble_eq_true rfl) (Nat.le_of_ble_eq_true rfl) dX6_init_16 (fun q2 H hP hD hS => ?_)
  refine W.widen (k := 46) (n := 354) (Nat.le_of_ble_eq_true rfl) (Nat.le_of_ble_eq_true rfl) ?_
  refine lv_dup hx hb dX6_init_19 rfl ?_
  refine zCallI (L := (([(h0, .inr (6, [.ref (ad1 0), .null, .int 0, .null, .null, .null, .null]))] : va_W) ++ z_wr ad1 cA 0 (zTA (fun _ => 0) (fun _ => 0) (fun _ => 0) 0 0 0 (fun _ => 0) (fun _ => zC0) 0))) hx hb hml hown hts hK hN hO c_Ta_init yI_Ta (i := 11) (Or.inr ⟨"FarthestPays", List.mem_of_getElem? (i := 0) (by decide +kernel)⟩) ⟨Nat.le_of_ble_eq_true rfl, Nat.le_of_ble_eq_true rfl⟩ ⟨Nat.le_of_ble_eq_true rfl, Nat.le_of_ble_eq_true rfl⟩ hP hD hS hA hl.1 (Nat.le_of_ble_eq_true rfl) dX6_init_20 (fun ad2 H locs e2 hP hD hS => ?_)
  refine W.widen (k := 90) (n := 702) (Nat.le_of_ble_eq_true rfl) (Nat.le_of_ble_eq_true rfl) ?_
  rw [← e2]
  have hP : va_P D classes ((([(h0, .inr (6, [.ref (ad1 0), .null, .int 0, .null, .null, .null, .null]))] : va_W) ++ z_wr ad1 cA 0 (zTA (fun _ => 0) (fun _ => 0) (fun _ => 0) 0 0 0 (fun _ => 0) (fun _ => zC0) 0)) ++ z_wr ad2 cA 0 (zTA (fun _ => 0) (fun _ => 0) (fun _ => 0) 0 0 0 (fun _ => 0) (fun _ => zC0) 0)) H := hP
  have hD : va_D A ((([(h0, .inr (6, [.ref (ad1 0), .null, .int 0, .null, .null, .null, .null]))] : va_W) ++ z_wr ad1 cA 0 (zTA (fun _ => 0) (fun _ => 0) (fun _ => 0) 0 0 0 (fun _ => 0) (fun _ => zC0) 0)) ++ z_wr ad2 cA 0 (zTA (fun _ => 0) (fun _ => 0) (fun _ => 0) 0 0 0 (fun _ => 0) (fun _ => zC0) 0)) := hD
  refine va_putF (D := D) (ci := 6) (v := (.ref (ad2 0))) (ty := (.object "FarthestPays$Table")) (C := RX6) (T := TX6) (N := 7) hx hb hts izX6 tyX6 tyX6_ok nmX6 hown hK hP hD hS 0 rfl rfl 1 (by decide) (hts (.fieldLink RX6 16 "FarthestPays" "kept" "LFarthestPays$Table;") (z_mem 181 (by decide +kernel) (by decide +kernel))) (fun _ h9 => h9) rfl hin rfl (by decide +kernel) rfl rfl (Nat.le_of_ble_eq_true rfl) dX6_init_23 (fun H locs hP hD hS => ?_)
  have hP : va_P D classes ((([(h0, .inr (6, [.ref (ad1 0), .ref (ad2 0), .int 0, .null, .null, .null, .null]))] : va_W) ++ z_wr ad1 cA 0 (zTA (fun _ => 0) (fun _ => 0) (fun _ => 0) 0 0 0 (fun _ => 0) (fun _ => zC0) 0)) ++ z_wr ad2 cA 0 (zTA (fun _ => 0) (fun _ => 0) (fun _ => 0) 0 0 0 (fun _ => 0) (fun _ => zC0) 0)) H := hP
  have hD : va_D A ((([(h0, .inr (6, [.ref (ad1 0), .ref (ad2 0), .int 0, .null, .null, .null, .null]))] : va_W) ++ z_wr ad1 cA 0 (zTA (fun _ => 0) (fun _ => 0) (fun _ => 0) 0 0 0 (fun _ => 0) (fun _ => zC0) 0)) ++ z_wr ad2 cA 0 (zTA (fun _ => 0) (fun _ => 0) (fun _ => 0) 0 0 0 (fun _ => 0) (fun _ => zC0) 0)) := hD
  refine lv_aload_n hx hb dX6_init_26 rfl (lv_at hl 0 rfl) ?_
  refine lv_iconst (v := 0) hx hb dX6_init_27 (by decide) ?_
  refine va_put (D := D) (ci := 6) (v := (.int 0)) (ty := .boolean) (C := RX6) (T := TX6) (N := 7) hx hb hts izX6 tyX6 tyX6_ok nmX6 hown hK hP hD hS 0 rfl rfl 2 (by decide) (hts (.fieldLink RX6 19 "FarthestPays" "hasImage" "Z") (z_mem 182 (by decide +kernel) (by decide +kernel))) (fun _ h9 => h9) rfl (by decide +kernel) rfl rfl (Nat.le_of_ble_eq_true rfl) dX6_init_28 (fun H locs hP hD hS => ?_)
  have hP : va_P D classes ((([(h0, .inr (6, [.ref (ad1 0), .ref (ad2 0), .int 0, .null, .null, .null, .null]))] : va_W) ++ z_wr ad1 cA 0 (zTA (fun _ => 0) (fun _ => 0) (fun _ => 0) 0 0 0 (fun _ => 0) (fun _ => zC0) 0)) ++ z_wr ad2 cA 0 (zTA (fun _ => 0) (fun _ => 0) (fun _ => 0) 0 0 0 (fun _ => 0) (fun _ => zC0) 0)) H := hP
  have hD : va_D A ((([(h0, .inr (6, [.ref (ad1 0), .ref (ad2 0), .int 0, .null, .null, .null, .null]))] : va_W) ++ z_wr ad1 cA 0 (zTA (fun _ => 0) (fun _ => 0) (fun _ => 0) 0 0 0 (fun _ => 0) (fun _ => zC0) 0)) ++ z_wr ad2 cA 0 (zTA (fun _ => 0) (fun _ => 0) (fun _ => 0) 0 0 0 (fun _ => 0) (fun _ => zC0) 0)) := hD
  refine lv_aload_n hx hb dX6_init_31 rfl (lv_at hl 0 rfl) ?_
  refine va_new (ci := 5) (fs := [.null, .int 0, .int 0, .int 0]) (C := RX5) (T := TX5) (N := 4) hx hb hts izX5 tyX5 tyX5_ok hown (hts (.classLink RX6 23 RX5) (z_mem 139 (by decide +kernel) (by decide +kernel))) (hts (.instantiable RX5 4) (z_mem 140 (by decide +kernel) (by decide +kernel))) (hts (.initialized RX5) (z_mem 54 (by decide +kernel) (by decide +kernel))) hK hP hD hS hA rfl (fun j hj => by rcases (show j = 0 ∨ j = 1 ∨ j = 2 ∨ j = 3 by omega) with rfl | rfl | rfl | rfl <;> rfl) (Nat.le_of_ble_eq_true rfl) (Nat.le_of_ble_eq_true rfl) dX6_init_32 (fun q3 H hP hD hS => ?_)
  refine W.widen (k := 91) (n := 706) (Nat.le_of_ble_eq_true rfl) (Nat.le_of_ble_eq_true rfl) ?_
  refine lv_dup hx hb dX6_init_35 rfl ?_
  refine zCallI (L := ((([(h0, .inr (6, [.ref (ad1 0), .ref (ad2 0), .int 0, .null, .null, .null, .null]))] : va_W) ++ z_wr ad1 cA 0 (zTA (fun _ => 0) (fun _ => 0) (fun _ => 0) 0 0 0 (fun _ => 0) (fun _ => zC0) 0)) ++ z_wr ad2 cA 0 (zTA (fun _ => 0) (fun _ => 0) (fun _ => 0) 0 0 0 (fun _ => 0) (fun _ => zC0) 0))) hx hb hml hown hts hK hN hO c_Tp_init yI_Tp (i := 25) (Or.inr ⟨"FarthestPays", List.mem_of_getElem? (i := 7) (by decide +kernel)⟩) ⟨Nat.le_of_ble_eq_true rfl, Nat.le_of_ble_eq_true rfl⟩ ⟨Nat.le_of_ble_eq_true rfl, Nat.le_of_ble_eq_true rfl⟩ hP hD hS hA hl.1 (Nat.le_of_ble_eq_true rfl) dX6_init_36 (fun ad3 H locs e3 hP hD hS => ?_)
  refine W.widen (k := 92) (n := 786) (Nat.le_of_ble_eq_true rfl) (Nat.le_of_ble_eq_true rfl) ?_
  rw [← e3]
  have hP : va_P D classes (((([(h0, .inr (6, [.ref (ad1 0), .ref (ad2 0), .int 0, .null, .null, .null, .null]))] : va_W) ++ z_wr ad1 cA 0 (zTA (fun _ => 0) (fun _ => 0) (fun _ => 0) 0 0 0 (fun _ => 0) (fun _ => zC0) 0)) ++ z_wr ad2 cA 0 (zTA (fun _ => 0) (fun _ => 0) (fun _ => 0) 0 0 0 (fun _ => 0) (fun _ => zC0) 0)) ++ z_wr ad3 cA 0 (wTp (fun _ => 0) 0 0 0)) H := hP
  have hD : va_D A (((([(h0, .inr (6, [.ref (ad1 0), .ref (ad2 0), .int 0, .null, .null, .null, .null]))] : va_W) ++ z_wr ad1 cA 0 (zTA (fun _ => 0) (fun _ => 0) (fun _ => 0) 0 0 0 (fun _ => 0) (fun _ => zC0) 0)) ++ z_wr ad2 cA 0 (zTA (fun _ => 0) (fun _ => 0) (fun _ => 0) 0 0 0 (fun _ => 0) (fun _ => zC0) 0)) ++ z_wr ad3 cA 0 (wTp (fun _ => 0) 0 0 0)) := hD
  refine va_putF (D := D) (ci := 6) (v := (.ref (ad3 0))) (ty := (.object "FarthestPays$Tape")) (C := RX6) (T := TX6) (N := 7) hx hb hts izX6 tyX6 tyX6_ok nmX6 hown hK hP hD hS 0 rfl rfl 3 (by decide) (hts (.fieldLink RX6 26 "FarthestPays" "tape" "LFarthestPays$Tape;") (z_mem 183 (by decide +kernel) (by decide +kernel))) (fun _ h9 => h9) rfl hin rfl (by decide +kernel) rfl rfl (Nat.le_of_ble_eq_true rfl) dX6_init_39 (fun H locs hP hD hS => ?_)
  have hP : va_P D classes (((([(h0, .inr (6, [.ref (ad1 0), .ref (ad2 0), .int 0, .ref (ad3 0), .null, .null, .null]))] : va_W) ++ z_wr ad1 cA 0 (zTA (fun _ => 0) (fun _ => 0) (fun _ => 0) 0 0 0 (fun _ => 0) (fun _ => zC0) 0)) ++ z_wr ad2 cA 0 (zTA (fun _ => 0) (fun _ => 0) (fun _ => 0) 0 0 0 (fun _ => 0) (fun _ => zC0) 0)) ++ z_wr ad3 cA 0 (wTp (fun _ => 0) 0 0 0)) H := hP
  have hD : va_D A (((([(h0, .inr (6, [.ref (ad1 0), .ref (ad2 0), .int 0, .ref (ad3 0), .null, .null, .null]))] : va_W) ++ z_wr ad1 cA 0 (zTA (fun _ => 0) (fun _ => 0) (fun _ => 0) 0 0 0 (fun _ => 0) (fun _ => zC0) 0)) ++ z_wr ad2 cA 0 (zTA (fun _ => 0) (fun _ => 0) (fun _ => 0) 0 0 0 (fun _ => 0) (fun _ => zC0) 0)) ++ z_wr ad3 cA 0 (wTp (fun _ => 0) 0 0 0)) := hD
  refine lv_aload_n hx hb dX6_init_42 rfl (lv_at hl 0 rfl) ?_
  refine va_new (ci := 3) (fs := [.null]) (C := RX3) (T := TX3) (N := 1) hx hb hts izX3 tyX3 tyX3_ok hown (hts (.classLink RX6 30 RX3) (z_mem 158 (by decide +kernel) (by decide +kernel))) (hts (.instantiable RX3 1) (z_mem 75 (by decide +kernel) (by decide +kernel))) (hts (.initialized RX3) (z_mem 51 (by decide +kernel) (by decide +kernel))) hK hP hD hS hA rfl (fun j hj => by rcases (show j = 0 by omega) with rfl <;> rfl) (Nat.le_of_ble_eq_true rfl) (Nat.le_of_ble_eq_true rfl) dX6_init_43 (fun q4 H hP hD hS => ?_)
  refine W.widen (k := 93) (n := 787) (Nat.le_of_ble_eq_true rfl) (Nat.le_of_ble_eq_true rfl) ?_
  refine lv_dup hx hb dX6_init_46 rfl ?_
  refine zCallI (L := (((([(h0, .inr (6, [.ref (ad1 0), .ref (ad2 0), .int 0, .ref (ad3 0), .null, .null, .null]))] : va_W) ++ z_wr ad1 cA 0 (zTA (fun _ => 0) (fun _ => 0) (fun _ => 0) 0 0 0 (fun _ => 0) (fun _ => zC0) 0)) ++ z_wr ad2 cA 0 (zTA (fun _ => 0) (fun _ => 0) (fun _ => 0) 0 0 0 (fun _ => 0) (fun _ => zC0) 0)) ++ z_wr ad3 cA 0 (wTp (fun _ => 0) 0 0 0))) hx hb hml hown hts hK hN hO c_Su_init yI_Su (i := 32) (Or.inr ⟨"FarthestPays", List.mem_of_getElem? (i := 8) (by decide +kernel)⟩) ⟨Nat.le_of_ble_eq_true rfl, Nat.le_of_ble_eq_true rfl⟩ ⟨Nat.le_of_ble_eq_true rfl, Nat.le_of_ble_eq_true rfl⟩ hP hD hS hA hl.1 (Nat.le_of_ble_eq_true rfl) dX6_init_47 (fun ad4 H locs e4 hP hD hS => ?_)
  refine W.widen (k := 94) (n := 808) (Nat.le_of_ble_eq_true rfl) (Nat.le_of_ble_eq_true rfl) ?_
  rw [← e4]
  have hP : va_P D classes ((((([(h0, .inr (6, [.ref (ad1 0), .ref (ad2 0), .int 0, .ref (ad3 0), .null, .null, .null]))] : va_W) ++ z_wr ad1 cA 0 (zTA (fun _ => 0) (fun _ => 0) (fun _ => 0) 0 0 0 (fun _ => 0) (fun _ => zC0) 0)) ++ z_wr ad2 cA 0 (zTA (fun _ => 0) (fun _ => 0) (fun _ => 0) 0 0 0 (fun _ => 0) (fun _ => zC0) 0)) ++ z_wr ad3 cA 0 (wTp (fun _ => 0) 0 0 0)) ++ z_wr ad4 cA 0 (wSu (fun _ => 0))) H := hP
  have hD : va_D A ((((([(h0, .inr (6, [.ref (ad1 0), .ref (ad2 0), .int 0, .ref (ad3 0), .null, .null, .null]))] : va_W) ++ z_wr ad1 cA 0 (zTA (fun _ => 0) (fun _ => 0) (fun _ => 0) 0 0 0 (fun _ => 0) (fun _ => zC0) 0)) ++ z_wr ad2 cA 0 (zTA (fun _ => 0) (fun _ => 0) (fun _ => 0) 0 0 0 (fun _ => 0) (fun _ => zC0) 0)) ++ z_wr ad3 cA 0 (wTp (fun _ => 0) 0 0 0)) ++ z_wr ad4 cA 0 (wSu (fun _ => 0))) := hD
  refine va_putF (D := D) (ci := 6) (v := (.ref (ad4 0))) (ty := (.object "FarthestPays$Supper")) (C := RX6) (T := TX6) (N := 7) hx hb hts izX6 tyX6 tyX6_ok nmX6 hown hK hP hD hS 0 rfl rfl 4 (by decide) (hts (.fieldLink RX6 33 "FarthestPays" "readSupper" "LFarthestPays$Supper;") (z_mem 184 (by decide +kernel) (by decide +kernel))) (fun _ h9 => h9) rfl hin rfl (by decide +kernel) rfl rfl (Nat.le_of_ble_eq_true rfl) dX6_init_50 (fun H locs hP hD hS => ?_)
  have hP : va_P D classes ((((([(h0, .inr (6, [.ref (ad1 0), .ref (ad2 0), .int 0, .ref (ad3 0), .ref (ad4 0), .null, .null]))] : va_W) ++ z_wr ad1 cA 0 (zTA (fun _ => 0) (fun _ => 0) (fun _ => 0) 0 0 0 (fun _ => 0) (fun _ => zC0) 0)) ++ z_wr ad2 cA 0 (zTA (fun _ => 0) (fun _ => 0) (fun _ => 0) 0 0 0 (fun _ => 0) (fun _ => zC0) 0)) ++ z_wr ad3 cA 0 (wTp (fun _ => 0) 0 0 0)) ++ z_wr ad4 cA 0 (wSu (fun _ => 0))) H := hP
  have hD : va_D A ((((([(h0, .inr (6, [.ref (ad1 0), .ref (ad2 0), .int 0, .ref (ad3 0), .ref (ad4 0), .null, .null]))] : va_W) ++ z_wr ad1 cA 0 (zTA (fun _ => 0) (fun _ => 0) (fun _ => 0) 0 0 0 (fun _ => 0) (fun _ => zC0) 0)) ++ z_wr ad2 cA 0 (zTA (fun _ => 0) (fun _ => 0) (fun _ => 0) 0 0 0 (fun _ => 0) (fun _ => zC0) 0)) ++ z_wr ad3 cA 0 (wTp (fun _ => 0) 0 0 0)) ++ z_wr ad4 cA 0 (wSu (fun _ => 0))) := hD
  refine lv_aload_n hx hb dX6_init_53 rfl (lv_at hl 0 rfl) ?_
  refine va_new (ci := 0) (fs := [.null, .null, .int 0, .int 0, .int 0]) (C := RX0) (T := TX0) (N := 5) hx hb hts izX0 tyX0 tyX0_ok hown (hts (.classLink RX6 37 RX0) (z_mem 160 (by decide +kernel) (by decide +kernel))) (hts (.instantiable RX0 5) (z_mem 86 (by decide +kernel) (by decide +kernel))) (hts (.initialized RX0) (z_mem 52 (by decide +kernel) (by decide +kernel))) hK hP hD hS hA rfl (fun j hj => by rcases (show j = 0 ∨ j = 1 ∨ j = 2 ∨ j = 3 ∨ j = 4 by omega) with rfl | rfl | rfl | rfl | rfl <;> rfl) (Nat.le_of_ble_eq_true rfl) (Nat.le_of_ble_eq_true rfl) dX6_init_54 (fun q5 H hP hD hS => ?_)
  refine W.widen (k := 95) (n := 813) (Nat.le_of_ble_eq_true rfl) (Nat.le_of_ble_eq_true rfl) ?_
  refine lv_dup hx hb dX6_init_57 rfl ?_
  refine zCallI (L := ((((([(h0, .inr (6, [.ref (ad1 0), .ref (ad2 0), .int 0, .ref (ad3 0), .ref (ad4 0), .null, .null]))] : va_W) ++ z_wr ad1 cA 0 (zTA (fun _ => 0) (fun _ => 0) (fun _ => 0) 0 0 0 (fun _ => 0) (fun _ => zC0) 0)) ++ z_wr ad2 cA 0 (zTA (fun _ => 0) (fun _ => 0) (fun _ => 0) 0 0 0 (fun _ => 0) (fun _ => zC0) 0)) ++ z_wr ad3 cA 0 (wTp (fun _ => 0) 0 0 0)) ++ z_wr ad4 cA 0 (wSu (fun _ => 0)))) hx hb hml hown hts hK hN hO c_Co_init yI_Co (i := 39) (Or.inr ⟨"FarthestPays", List.mem_of_getElem? (i := 9) (by decide +kernel)⟩) ⟨Nat.le_of_ble_eq_true rfl, Nat.le_of_ble_eq_true rfl⟩ ⟨Nat.le_of_ble_eq_true rfl, Nat.le_of_ble_eq_true rfl⟩ hP hD hS hA hl.1 (Nat.le_of_ble_eq_true rfl) dX6_init_58 (fun ad5 H locs e5 hP hD hS => ?_)
  refine W.widen (k := 97) (n := 831) (Nat.le_of_ble_eq_true rfl) (Nat.le_of_ble_eq_true rfl) ?_
  rw [← e5]
  have hP : va_P D classes (((((([(h0, .inr (6, [.ref (ad1 0), .ref (ad2 0), .int 0, .ref (ad3 0), .ref (ad4 0), .null, .null]))] : va_W) ++ z_wr ad1 cA 0 (zTA (fun _ => 0) (fun _ => 0) (fun _ => 0) 0 0 0 (fun _ => 0) (fun _ => zC0) 0)) ++ z_wr ad2 cA 0 (zTA (fun _ => 0) (fun _ => 0) (fun _ => 0) 0 0 0 (fun _ => 0) (fun _ => zC0) 0)) ++ z_wr ad3 cA 0 (wTp (fun _ => 0) 0 0 0)) ++ z_wr ad4 cA 0 (wSu (fun _ => 0))) ++ z_wr ad5 cA 0 (wCo (fun _ => 0) (fun _ => 0) 0 0 0)) H := hP
  have hD : va_D A (((((([(h0, .inr (6, [.ref (ad1 0), .ref (ad2 0), .int 0, .ref (ad3 0), .ref (ad4 0), .null, .null]))] : va_W) ++ z_wr ad1 cA 0 (zTA (fun _ => 0) (fun _ => 0) (fun _ => 0) 0 0 0 (fun _ => 0) (fun _ => zC0) 0)) ++ z_wr ad2 cA 0 (zTA (fun _ => 0) (fun _ => 0) (fun _ => 0) 0 0 0 (fun _ => 0) (fun _ => zC0) 0)) ++ z_wr ad3 cA 0 (wTp (fun _ => 0) 0 0 0)) ++ z_wr ad4 cA 0 (wSu (fun _ => 0))) ++ z_wr ad5 cA 0 (wCo (fun _ => 0) (fun _ => 0) 0 0 0)) := hD
  refine va_putF (D := D) (ci := 6) (v := (.ref (ad5 0))) (ty := (.object "FarthestPays$Company")) (C := RX6) (T := TX6) (N := 7) hx hb hts izX6 tyX6 tyX6_ok nmX6 hown hK hP hD hS 0 rfl rfl 5 (by decide) (hts (.fieldLink RX6 40 "FarthestPays" "readCompany" "LFarthestPays$Company;") (z_mem 185 (by decide +kernel) (by decide +kernel))) (fun _ h9 => h9) rfl hin rfl (by decide +kernel) rfl rfl (Nat.le_of_ble_eq_true rfl) dX6_init_61 (fun H locs hP hD hS => ?_)
  have hP : va_P D classes (((((([(h0, .inr (6, [.ref (ad1 0), .ref (ad2 0), .int 0, .ref (ad3 0), .ref (ad4 0), .ref (ad5 0), .null]))] : va_W) ++ z_wr ad1 cA 0 (zTA (fun _ => 0) (fun _ => 0) (fun _ => 0) 0 0 0 (fun _ => 0) (fun _ => zC0) 0)) ++ z_wr ad2 cA 0 (zTA (fun _ => 0) (fun _ => 0) (fun _ => 0) 0 0 0 (fun _ => 0) (fun _ => zC0) 0)) ++ z_wr ad3 cA 0 (wTp (fun _ => 0) 0 0 0)) ++ z_wr ad4 cA 0 (wSu (fun _ => 0))) ++ z_wr ad5 cA 0 (wCo (fun _ => 0) (fun _ => 0) 0 0 0)) H := hP
  have hD : va_D A (((((([(h0, .inr (6, [.ref (ad1 0), .ref (ad2 0), .int 0, .ref (ad3 0), .ref (ad4 0), .ref (ad5 0), .null]))] : va_W) ++ z_wr ad1 cA 0 (zTA (fun _ => 0) (fun _ => 0) (fun _ => 0) 0 0 0 (fun _ => 0) (fun _ => zC0) 0)) ++ z_wr ad2 cA 0 (zTA (fun _ => 0) (fun _ => 0) (fun _ => 0) 0 0 0 (fun _ => 0) (fun _ => zC0) 0)) ++ z_wr ad3 cA 0 (wTp (fun _ => 0) 0 0 0)) ++ z_wr ad4 cA 0 (wSu (fun _ => 0))) ++ z_wr ad5 cA 0 (wCo (fun _ => 0) (fun _ => 0) 0 0 0)) := hD
  refine lv_aload_n hx hb dX6_init_64 rfl (lv_at hl 0 rfl) ?_
  refine lv_iconst (v := 4) hx hb dX6_init_65 (by decide) ?_
  refine z_newQ1 hx hb hown (hts (.classLink RX6 44 RX2) (z_mem 162 (by decide +kernel) (by decide +kernel))) hO hK hP hD hS hA (N := 4) (by decide) (by decide) (Nat.le_of_ble_eq_true rfl) (Nat.le_of_ble_eq_true rfl) (Nat.le_of_ble_eq_true rfl) dX6_init_66 (fun q6 H hP hD hS => ?_)
  refine W.widen (k := 98) (n := 835) (Nat.le_of_ble_eq_true rfl) (Nat.le_of_ble_eq_true rfl) ?_
  have hP : va_P D classes (((h0, .inr (6, [.ref (ad1 0), .ref (ad2 0), .int 0, .ref (ad3 0), .ref (ad4 0), .ref (ad5 0), .null])) :: ((((z_wr ad1 cA 0 (zTA (fun _ => 0) (fun _ => 0) (fun _ => 0) 0 0 0 (fun _ => 0) (fun _ => zC0) 0) ++ z_wr ad2 cA 0 (zTA (fun _ => 0) (fun _ => 0) (fun _ => 0) 0 0 0 (fun _ => 0) (fun _ => zC0) 0)) ++ z_wr ad3 cA 0 (wTp (fun _ => 0) 0 0 0)) ++ z_wr ad4 cA 0 (wSu (fun _ => 0))) ++ z_wr ad5 cA 0 (wCo (fun _ => 0) (fun _ => 0) 0 0 0))) ++ [(q6, .inl (cA 3, (4, .inr (.inr (.inr (.inr (fun _ => none)))))))]) H := hP
  have hD : va_D A (((h0, .inr (6, [.ref (ad1 0), .ref (ad2 0), .int 0, .ref (ad3 0), .ref (ad4 0), .ref (ad5 0), .null])) :: ((((z_wr ad1 cA 0 (zTA (fun _ => 0) (fun _ => 0) (fun _ => 0) 0 0 0 (fun _ => 0) (fun _ => zC0) 0) ++ z_wr ad2 cA 0 (zTA (fun _ => 0) (fun _ => 0) (fun _ => 0) 0 0 0 (fun _ => 0) (fun _ => zC0) 0)) ++ z_wr ad3 cA 0 (wTp (fun _ => 0) 0 0 0)) ++ z_wr ad4 cA 0 (wSu (fun _ => 0))) ++ z_wr ad5 cA 0 (wCo (fun _ => 0) (fun _ => 0) 0 0 0))) ++ [(q6, .inl (cA 3, (4, .inr (.inr (.inr (.inr (fun _ => none)))))))]) := hD
  have hP := zSwP hP
  have hD := zSwD hD
  obtain ⟨M, hM⟩ : ∃ M : va_W, M = ((((z_wr ad1 cA 0 (zTA (fun _ => 0) (fun _ => 0) (fun _ => 0) 0 0 0 (fun _ => 0) (fun _ => zC0) 0) ++ z_wr ad2 cA 0 (zTA (fun _ => 0) (fun _ => 0) (fun _ => 0) 0 0 0 (fun _ => 0) (fun _ => zC0) 0)) ++ z_wr ad3 cA 0 (wTp (fun _ => 0) 0 0 0)) ++ z_wr ad4 cA 0 (wSu (fun _ => 0))) ++ z_wr ad5 cA 0 (wCo (fun _ => 0) (fun _ => 0) 0 0 0)) := ⟨_, rfl⟩
  rw [← hM] at hP hD
  refine va_putF (D := D) (ci := 6) (v := (.ref q6)) (ty := (.array (.object "FarthestPays$Sheet"))) (C := RX6) (T := TX6) (N := 7) hx hb hts izX6 tyX6 tyX6_ok nmX6 hown hK hP hD hS 0 rfl rfl 6 (by decide) (hts (.fieldLink RX6 46 "FarthestPays" "sheets" "[LFarthestPays$Sheet;") (z_mem 186 (by decide +kernel) (by decide +kernel))) (fun _ h9 => h9) rfl hin rfl (by decide +kernel) rfl rfl (Nat.le_of_ble_eq_true rfl) dX6_init_69 (fun H locs hP hD hS => ?_)
  have hP : va_P D classes ([(h0, .inr (6, [.ref (ad1 0), .ref (ad2 0), .int 0, .ref (ad3 0), .ref (ad4 0), .ref (ad5 0), .ref q6])), (q6, .inl (cA 3, (4, .inr (.inr (.inr (.inr (fun _ => none)))))))] ++ M) H := hP
  have hD : va_D A ([(h0, .inr (6, [.ref (ad1 0), .ref (ad2 0), .int 0, .ref (ad3 0), .ref (ad4 0), .ref (ad5 0), .ref q6])), (q6, .inl (cA 3, (4, .inr (.inr (.inr (.inr (fun _ => none)))))))] ++ M) := hD
  refine lv_iconst (v := 0) hx hb dX6_init_72 (by decide) ?_
  refine lv_istore_n (lv' := [(1, .int 0), (0, .ref h0)]) hx hb dX6_init_73 rfl hl (by decide) rfl (fun ls hl => ?_)
  have loop : ∀ d i : Nat, i + d = 4 → ∀ (ads : Nat → Nat → Nat) (H : Heap) (locs : List Loc) (ls : Array Slot), va_P D classes (([(h0, .inr (6, [.ref (ad1 0), .ref (ad2 0), .int 0, .ref (ad3 0), .ref (ad4 0), .ref (ad5 0), .ref q6])), (q6, .inl (cA 3, (4, .inr (.inr (.inr (.inr (fun j => if j < i then some (ads j 0) else none)))))))] : va_W) ++ (M ++ zSegs ads cA (wSh (fun _ => 0) 0 (-1)) i)) H → va_D A (([(h0, .inr (6, [.ref (ad1 0), .ref (ad2 0), .int 0, .ref (ad3 0), .ref (ad4 0), .ref (ad5 0), .ref q6])), (q6, .inl (cA 3, (4, .inr (.inr (.inr (.inr (fun j => if j < i then some (ads j 0) else none)))))))] : va_W) ++ (M ++ zSegs ads cA (wSh (fun _ => 0) 0 (-1)) i)) → va_S A s.heap H locs → lv_has ls 2 [(0, .ref h0), (1, .int (Int32.ofInt (i : Int)))] →
      W p l e (headSpec (Cond.code yX6_init cX6_init 2 none :: z_tbl) ({ frames := 4, cells := 106, slots := 943, locals := 73 } : Room)).room s m ([.ref h0] : List Value).toArray below meth c H locs (98 + 2 * i) (835 + 27 * i) (MQ below (va_Qv (fun _ : Nat → Nat => True) (zIPost D cA h0 A (zRoot 0 :: ((zTA (fun _ => 0) (fun _ => 0) (fun _ => 0) 0 0 0 (fun _ => 0) (fun _ => zC0) 0).map (z_ren (List.range' 1 45)) ++ ((zTA (fun _ => 0) (fun _ => 0) (fun _ => 0) 0 0 0 (fun _ => 0) (fun _ => zC0) 0).map (z_ren (List.range' 46 45)) ++ zTs (fun _ => 0) 0 0 0 (fun _ => 0) zC0 (fun _ => ((fun _ => 0), (0, -1))))))) A) ([.ref h0] : List Value).toArray s 106 943 A) (F0 m 74 ls []) := by
    intro d
    induction d with
    | zero =>
      intro i hi ads H locs ls hP hD hS hl
      obtain rfl : i = 4 := by omega
      refine lv_iload_n hx hb dX6_init_74 rfl (lv_at hl 1 rfl) ?_
      refine lv_iconst (v := 4) hx hb dX6_init_75 (by decide) ?_
      refine lv_icmp_ge (tgt := 98) hx hb dX6_init_76 (by decide) (fun _ => ?_) (fun h => absurd (by decide) h)
      -- the whole
      obtain ⟨ad, had⟩ : ∃ f : Nat → Nat, f = fun k => if k = 0 then h0 else if k < 46 then ad1 (k - 1) else if k < 91 then ad2 (k - 46) else if k < 93 then ad3 (k - 91) else if k < 95 then ad4 (k - 93) else if k < 98 then ad5 (k - 95) else if k = 98 then q6 else ads ((k - 99) / 2) ((k - 99) % 2) := ⟨_, rfl⟩
      have hfn : ∀ k, ad k = if k = 0 then h0 else if k < 46 then ad1 (k - 1) else if k < 91 then ad2 (k - 46) else if k < 93 then ad3 (k - 91) else if k < 95 then ad4 (k - 93) else if k < 98 then ad5 (k - 95) else if k = 98 then q6 else ads ((k - 99) / 2) ((k - 99) % 2) := fun k => by rw [had]
      have a0 : ad 0 = h0 := by rw [had]; rfl
      have a1 : ∀ k, k < 45 → ad (1 + k) = ad1 k := fun k hk => by
        rw [hfn, if_neg (by omega), if_pos (by omega), Nat.add_sub_cancel_left]
      have a2 : ∀ k, k < 45 → ad (46 + k) = ad2 k := fun k hk => by
        rw [hfn, if_neg (by omega), if_neg (by omega), if_pos (by omega), Nat.add_sub_cancel_left]
      have a91 : ad 91 = ad3 0 := by rw [had]; rfl
      have a92 : ad 92 = ad3 1 := by rw [had]; rfl
      have a93 : ad 93 = ad4 0 := by rw [had]; rfl
      have a94 : ad 94 = ad4 1 := by rw [had]; rfl
      have a95 : ad 95 = ad5 0 := by rw [had]; rfl
      have a96 : ad 96 = ad5 1 := by rw [had]; rfl
      have a97 : ad 97 = ad5 2 := by rw [had]; rfl
      have a98 : ad 98 = q6 := by rw [had]; rfl
      have a99 : ∀ i k, k < 2 → ad (99 + 2 * i + k) = ads i k := fun i k hk => by
        rw [hfn, if_neg (by omega), if_neg (by omega), if_neg (by omega), if_neg (by omega), if_neg (by omega), if_neg (by omega), if_neg (by omega), show (99 + 2 * i + k - 99) / 2 = i by omega, show (99 + 2 * i + k - 99) % 2 = k by omega]
      have hP0 := zP_l hP
      have hPM : va_P D classes (M ++ zSegs ads cA (wSh (fun _ => 0) 0 (-1)) 4) H := zP_r hP
      have hMM := zP_l hPM
      rw [hM] at hMM
      have h5 := zP_r hMM
      have h4 := zP_r (zP_l hMM)
      have h3 := zP_r (zP_l (zP_l hMM))
      have h2 := zP_r (zP_l (zP_l (zP_l hMM)))
      have h1 := zP_l (zP_l (zP_l (zP_l hMM)))
      have hsg := zSegs_at (zP_r hPM)
      have hs9 : ∀ i, i < 4 → va_P D classes (z_wr ad cA (99 + 2 * i) (zShC (99 + 2 * i) ((fun _ => 0), (0, -1)))) H := fun i hi => by
        have e0 := a99 i 0 (by omega)
        have e1 := a99 i 1 (by omega)
        have hq := hsg i hi
        have hq : va_P D classes [(ads i 0, .inr (2, [.ref (ads i 1), .int 0, .int (-1)])), (ads i 1, .inl (cA 1, (24, .inr (.inl (fun _ => 0)))))] H := hq
        rw [← e0, ← e1] at hq
        exact hq
      have hsh : va_P D classes (z_wr ad cA 99 (zShC 99 ((fun _ => 0), (0, -1)) ++ (zShC 101 ((fun _ => 0), (0, -1)) ++ (zShC 103 ((fun _ => 0), (0, -1)) ++ zShC 105 ((fun _ => 0), (0, -1)))))) H := zP_wapp (hs9 0 (by omega)) (zP_wapp (hs9 1 (by omega)) (zP_wapp (hs9 2 (by omega)) (hs9 3 (by omega))))
      have hrow : va_at D classes (ad 98, z_e ad cA (.inr (1, (4, .inr (.inr (fun j => 99 + 2 * j.toNat)))))) H := by
        have er : vp_cell (cA 3) (4, .inr (.inr (.inr (.inr (fun j : Nat => some (ad (99 + 2 * ((j : Int)).toNat))))))) = vp_cell (cA 3) (4, .inr (.inr (.inr (.inr (fun j => if j < 4 then some (ads j 0) else none))))) := by
          simp only [vp_cell, arrV]
          congr 2
          funext j
          rw [if_pos j.isLt, Int.toNat_natCast, ← a99 j.val 0 (by omega)]
          rfl
        show H[ad 98]? = some (vp_cell (cA 3) (4, .inr (.inr (.inr (.inr (fun j : Nat => some (ad (99 + 2 * ((j : Int)).toNat))))))))
        rw [er, a98]
        exact hP0 1 _ rfl
      have hroot : va_at D classes (ad 0, z_e ad cA (zRoot 0)) H := by
        show va_at D classes (ad 0, .inr (6, [.ref (ad 1), .ref (ad 46), .int 0, .ref (ad 91), .ref (ad 93), .ref (ad 95), .ref (ad 98)])) H
        have a10 : ad 1 = ad1 0 := a1 0 (by omega)
        have a20 : ad 46 = ad2 0 := a2 0 (by omega)
        rw [a0, a10, a20, a91, a93, a95, a98]
        exact hP0 0 _ rfl
      have hts9 : va_P D classes (z_wr ad cA 91 (zTs (fun _ => 0) 0 0 0 (fun _ => 0) zC0 (fun _ => ((fun _ => 0), (0, -1))))) H := by
        refine zP_c ?_ (zP_c ?_ (zP_c ?_ (zP_c ?_ (zP_c ?_ (zP_c ?_ (zP_c ?_ (zP_c hrow hsh)))))))
        · show va_at D classes (ad 91, .inr (5, [.ref (ad 92), .int 0, .int 0, .int 0])) H
          rw [a91, a92]; exact h3 0 _ rfl
        · show va_at D classes (ad 92, .inl (cA 0, (80, .inl (fun _ => 0)))) H
          rw [a92]; exact h3 1 _ rfl
        · show va_at D classes (ad 93, .inr (3, [.ref (ad 94)])) H
          rw [a93, a94]; exact h4 0 _ rfl
        · show va_at D classes (ad 94, .inl (cA 0, (21, .inl (fun _ => 0)))) H
          rw [a94]; exact h4 1 _ rfl
        · show va_at D classes (ad 95, .inr (0, [.ref (ad 96), .ref (ad 97), .int 0, .int 0, .int 0])) H
          rw [a95, a96, a97]; exact h5 0 _ rfl
        · show va_at D classes (ad 96, .inl (cA 0, (9, .inl (fun _ => 0)))) H
          rw [a96]; exact h5 1 _ rfl
        · show va_at D classes (ad 97, .inl (cA 0, (9, .inl (fun _ => 0)))) H
          rw [a97]; exact h5 2 _ rfl
      have hP9 : va_P D classes (z_wr ad cA 0 (zRoot 0 :: ((zTA (fun _ => 0) (fun _ => 0) (fun _ => 0) 0 0 0 (fun _ => 0) (fun _ => zC0) 0).map (z_ren (List.range' 1 45)) ++ ((zTA (fun _ => 0) (fun _ => 0) (fun _ => 0) 0 0 0 (fun _ => 0) (fun _ => zC0) 0).map (z_ren (List.range' 46 45)) ++ zTs (fun _ => 0) 0 0 0 (fun _ => 0) zC0 (fun _ => ((fun _ => 0), (0, -1))))))) H := zP_c hroot (zP_wapp (o := 1) (zP_seg (o := 1) (n := 44) (fun k hk => a1 k hk) cl_Ta (Nat.le_of_ble_eq_true rfl) h1) (zP_wapp (zP_seg (o := 46) (n := 44) (fun k hk => a2 k hk) cl_Ta (Nat.le_of_ble_eq_true rfl) h2) hts9))
      have hD9 : va_D A (z_wr ad cA 0 (zRoot 0 :: ((zTA (fun _ => 0) (fun _ => 0) (fun _ => 0) 0 0 0 (fun _ => 0) (fun _ => zC0) 0).map (z_ren (List.range' 1 45)) ++ ((zTA (fun _ => 0) (fun _ => 0) (fun _ => 0) 0 0 0 (fun _ => 0) (fun _ => zC0) 0).map (z_ren (List.range' 46 45)) ++ zTs (fun _ => 0) 0 0 0 (fun _ => 0) zC0 (fun _ => ((fun _ => 0), (0, -1))))))) := by
        rw [hM] at hD
        rw [zD_nd] at hD ⊢
        have hz : (([(h0, .inr (6, [.ref (ad1 0), .ref (ad2 0), .int 0, .ref (ad3 0), .ref (ad4 0), .ref (ad5 0), .ref q6])), (q6, .inl (cA 3, (4, .inr (.inr (.inr (.inr (fun j => if j < 4 then some (ads j 0) else none)))))))] : va_W) ++ ((((((z_wr ad1 cA 0 (zTA (fun _ => 0) (fun _ => 0) (fun _ => 0) 0 0 0 (fun _ => 0) (fun _ => zC0) 0) ++ z_wr ad2 cA 0 (zTA (fun _ => 0) (fun _ => 0) (fun _ => 0) 0 0 0 (fun _ => 0) (fun _ => zC0) 0)) ++ z_wr ad3 cA 0 (wTp (fun _ => 0) 0 0 0)) ++ z_wr ad4 cA 0 (wSu (fun _ => 0))) ++ z_wr ad5 cA 0 (wCo (fun _ => 0) (fun _ => 0) 0 0 0)) : va_W) ++ zSegs ads cA (wSh (fun _ => 0) 0 (-1)) 4)).map (fun q => q.1) = h0 :: q6 :: ((((((List.range' 0 45).map ad1 ++ (List.range' 0 45).map ad2) ++ (List.range' 0 2).map ad3) ++ (List.range' 0 2).map ad4) ++ (List.range' 0 3).map ad5) ++ (List.range' 99 8).map ad) := by
          rw [List.map_append, List.map_append, List.map_append, List.map_append, List.map_append, List.map_append, z_wr_fst, z_wr_fst, z_wr_fst, z_wr_fst, z_wr_fst, zSegs_fst (ad := ad) (o := 99) (r := 2) rfl 4 (fun i k _ hk => a99 i k hk)]
          rfl
        have hy : (z_wr ad cA 0 (zRoot 0 :: ((zTA (fun _ => 0) (fun _ => 0) (fun _ => 0) 0 0 0 (fun _ => 0) (fun _ => zC0) 0).map (z_ren (List.range' 1 45)) ++ ((zTA (fun _ => 0) (fun _ => 0) (fun _ => 0) 0 0 0 (fun _ => 0) (fun _ => zC0) 0).map (z_ren (List.range' 46 45)) ++ zTs (fun _ => 0) 0 0 0 (fun _ => 0) zC0 (fun _ => ((fun _ => 0), (0, -1))))))).map (fun q => q.1) = h0 :: ((((((List.range' 0 45).map ad1 ++ (List.range' 0 45).map ad2) ++ (List.range' 0 2).map ad3) ++ (List.range' 0 2).map ad4) ++ (List.range' 0 3).map ad5) ++ (q6 :: (List.range' 99 8).map ad)) := by
          rw [z_wr_fst]
          have e : List.range' 0 (zRoot 0 :: ((zTA (fun _ => 0) (fun _ => 0) (fun _ => 0) 0 0 0 (fun _ => 0) (fun _ => zC0) 0).map (z_ren (List.range' 1 45)) ++ ((zTA (fun _ => 0) (fun _ => 0) (fun _ => 0) 0 0 0 (fun _ => 0) (fun _ => zC0) 0).map (z_ren (List.range' 46 45)) ++ zTs (fun _ => 0) 0 0 0 (fun _ => 0) zC0 (fun _ => ((fun _ => 0), (0, -1)))))).length = 0 :: (((((List.range' 1 45 ++ List.range' 46 45) ++ List.range' 91 2) ++ List.range' 93 2) ++ List.range' 95 3) ++ (98 :: List.range' 99 8)) := rfl
          rw [e]
          simp only [List.map_append, List.map_cons]
          rw [a0, a98, z_rg_map (f := ad) (h := ad1) 45 1 0 (fun k hk => by rw [Nat.zero_add]; exact a1 k hk), z_rg_map (f := ad) (h := ad2) 45 46 0 (fun k hk => by rw [Nat.zero_add]; exact a2 k hk)]
          have e3 : (List.range' 91 2).map ad = (List.range' 0 2).map ad3 := by
            show [ad 91, ad 92] = [ad3 0, ad3 1]
            rw [a91, a92]
          have e4 : (List.range' 93 2).map ad = (List.range' 0 2).map ad4 := by
            show [ad 93, ad 94] = [ad4 0, ad4 1]
            rw [a93, a94]
          have e5 : (List.range' 95 3).map ad = (List.range' 0 3).map ad5 := by
            show [ad 95, ad 96, ad 97] = [ad5 0, ad5 1, ad5 2]
            rw [a95, a96, a97]
          rw [e3, e4, e5]
        have hpm : ((z_wr ad cA 0 (zRoot 0 :: ((zTA (fun _ => 0) (fun _ => 0) (fun _ => 0) 0 0 0 (fun _ => 0) (fun _ => zC0) 0).map (z_ren (List.range' 1 45)) ++ ((zTA (fun _ => 0) (fun _ => 0) (fun _ => 0) 0 0 0 (fun _ => 0) (fun _ => zC0) 0).map (z_ren (List.range' 46 45)) ++ zTs (fun _ => 0) 0 0 0 (fun _ => 0) zC0 (fun _ => ((fun _ => 0), (0, -1))))))).map (fun q => q.1)).Perm ((([(h0, .inr (6, [.ref (ad1 0), .ref (ad2 0), .int 0, .ref (ad3 0), .ref (ad4 0), .ref (ad5 0), .ref q6])), (q6, .inl (cA 3, (4, .inr (.inr (.inr (.inr (fun j => if j < 4 then some (ads j 0) else none)))))))] : va_W) ++ ((((((z_wr ad1 cA 0 (zTA (fun _ => 0) (fun _ => 0) (fun _ => 0) 0 0 0 (fun _ => 0) (fun _ => zC0) 0) ++ z_wr ad2 cA 0 (zTA (fun _ => 0) (fun _ => 0) (fun _ => 0) 0 0 0 (fun _ => 0) (fun _ => zC0) 0)) ++ z_wr ad3 cA 0 (wTp (fun _ => 0) 0 0 0)) ++ z_wr ad4 cA 0 (wSu (fun _ => 0))) ++ z_wr ad5 cA 0 (wCo (fun _ => 0) (fun _ => 0) 0 0 0)) : va_W) ++ zSegs ads cA (wSh (fun _ => 0) 0 (-1)) 4)).map (fun q => q.1)) := by
          rw [hy, hz]
          exact List.Perm.cons _ List.perm_middle
        refine ⟨hpm.nodup_iff.mpr hD.1, fun q hq => ?_⟩
        have h7 : q.1 ∈ (z_wr ad cA 0 (zRoot 0 :: ((zTA (fun _ => 0) (fun _ => 0) (fun _ => 0) 0 0 0 (fun _ => 0) (fun _ => zC0) 0).map (z_ren (List.range' 1 45)) ++ ((zTA (fun _ => 0) (fun _ => 0) (fun _ => 0) 0 0 0 (fun _ => 0) (fun _ => zC0) 0).map (z_ren (List.range' 46 45)) ++ zTs (fun _ => 0) 0 0 0 (fun _ => 0) zC0 (fun _ => ((fun _ => 0), (0, -1))))))).map (fun q => q.1) := List.mem_map.mpr ⟨q, hq, rfl⟩
        obtain ⟨q2, h8, h9⟩ := List.mem_map.mp (hpm.mem_iff.mp h7)
        rw [← h9]; exact hD.2 q2 h8
      exact W.vret hx hb hr (fun t ht hW => ⟨⟨ad, rfl, trivial, a0, by rw [ht]; exact hP9, hD9⟩, hS.F ht⟩) hS.2.2 dX6_init_98
    | succ d ih =>
      intro i hi ads H locs ls hP hD hS hl
      refine lv_iload_n hx hb dX6_init_74 rfl (lv_at hl 1 rfl) ?_
      refine lv_iconst (v := 4) hx hb dX6_init_75 (by decide) ?_
      refine lv_icmp_ge (tgt := 98) hx hb dX6_init_76 (by decide) (fun h => ?_) (fun _ => ?_)
      · have h2 : Int32.ofInt 4 ≤ Int32.ofInt (i : Int) := h
        rw [z_rle (by omega) (by omega)] at h2
        omega
      refine lv_aload_n hx hb dX6_init_79 rfl (lv_at hl 0 rfl) ?_
      refine va_get (D := D) (ci := 6) (v := (.ref q6)) (C := RX6) (T := TX6) (N := 7) hx hb hts izX6 hown hK hP 0 rfl rfl 6 (by decide) (hts (.fieldLink RX6 46 "FarthestPays" "sheets" "[LFarthestPays$Sheet;") (z_mem 186 (by decide +kernel) (by decide +kernel))) (fun _ h9 => h9) rfl dX6_init_80 ?_
      refine lv_iload_n hx hb dX6_init_83 rfl (lv_at hl 1 rfl) ?_
      refine va_new (ci := 2) (fs := [.null, .int 0, .int 0]) (C := RX2) (T := TX2) (N := 3) hx hb hts izX2 tyX2 tyX2_ok hown (hts (.classLink RX6 44 RX2) (z_mem 162 (by decide +kernel) (by decide +kernel))) (hts (.instantiable RX2 3) (z_mem 164 (by decide +kernel) (by decide +kernel))) (hts (.initialized RX2) (z_mem 55 (by decide +kernel) (by decide +kernel))) hK hP hD hS hA rfl (fun j hj => by rcases (show j = 0 ∨ j = 1 ∨ j = 2 by omega) with rfl | rfl | rfl <;> rfl) (show 98 + 2 * i + 1 ≤ 106 by omega) (show 835 + 27 * i + 3 ≤ 943 by omega) dX6_init_84 (fun q7 H hP hD hS => ?_)
      refine W.widen (k := 98 + 1 + 2 * i) (n := 835 + 3 + 27 * i) (by omega) (by omega) ?_
      refine lv_dup hx hb dX6_init_87 rfl ?_
      refine zCallI (L := ([(h0, .inr (6, [.ref (ad1 0), .ref (ad2 0), .int 0, .ref (ad3 0), .ref (ad4 0), .ref (ad5 0), .ref q6])), (q6, .inl (cA 3, (4, .inr (.inr (.inr (.inr (fun j => if j < i then some (ads j 0) else none)))))))] : va_W) ++ (M ++ zSegs ads cA (wSh (fun _ => 0) 0 (-1)) i)) hx hb hml hown hts hK hN hO c_Sh_init yI_Sh (i := 50) (Or.inr ⟨"FarthestPays", List.mem_of_getElem? (i := 10) (by decide +kernel)⟩) ⟨Nat.le_of_ble_eq_true rfl, Nat.le_of_ble_eq_true rfl⟩ ⟨show 98 + 1 + 2 * i + 1 ≤ 106 by omega, show 835 + 3 + 27 * i + 24 ≤ 943 by omega⟩ hP hD hS hA hl.1 (Nat.le_of_ble_eq_true rfl) dX6_init_88 (fun ad9 H locs e0 hP hD hS => ?_)
      rw [← e0]
      have hcl : (((Int32.ofInt (i : Int)).toNatClampNeg : Nat) : Int) = (i : Int) := z_cl (n := 4) (by omega)
      have hcl2 : (Int32.ofInt (i : Int)).toNatClampNeg = i := by omega
      refine va_astq (r := (RX2, TX2, 3)) (f := (fun j => if j < i then some (ads j 0) else none)) hx hb hK hP hD hS 1 3 (([(h0, .inr (6, [.ref (ad1 0), .ref (ad2 0), .int 0, .ref (ad3 0), .ref (ad4 0), .ref (ad5 0), .ref q6])), (q6, .inl (cA 3, (4, .inr (.inr (.inr (.inr (fun j => if j < i then some (ads j 0) else none)))))))] : va_W) ++ (M ++ zSegs ads cA (wSh (fun _ => 0) 0 (-1)) i)).length 2 rfl rfl (vs := [.ref (ad9 1), .int 0, .int (-1)]) (by rw [List.getElem?_append_right (Nat.le_refl _), Nat.sub_self]; rfl) rfl (z_vin (i := (i : Int)) (n := 4) (by omega)) dX6_init_91 (fun H locs hP hD hS => ?_)
      rw [hcl2] at hP hD
      have erow := zRowUp ads ad9 i
      have hP : va_P D classes ((([(h0, .inr (6, [.ref (ad1 0), .ref (ad2 0), .int 0, .ref (ad3 0), .ref (ad4 0), .ref (ad5 0), .ref q6])), (q6, .inl (cA 3, (4, .inr (.inr (.inr (.inr (va_up (fun j => if j < i then some (ads j 0) else none) i (some (ad9 0)))))))))] : va_W) ++ (M ++ zSegs ads cA (wSh (fun _ => 0) 0 (-1)) i)) ++ z_wr ad9 cA 0 (wSh (fun _ => 0) 0 (-1))) H := hP
      have hD : va_D A ((([(h0, .inr (6, [.ref (ad1 0), .ref (ad2 0), .int 0, .ref (ad3 0), .ref (ad4 0), .ref (ad5 0), .ref q6])), (q6, .inl (cA 3, (4, .inr (.inr (.inr (.inr (va_up (fun j => if j < i then some (ads j 0) else none) i (some (ad9 0)))))))))] : va_W) ++ (M ++ zSegs ads cA (wSh (fun _ => 0) 0 (-1)) i)) ++ z_wr ad9 cA 0 (wSh (fun _ => 0) 0 (-1))) := hD
      rw [erow, List.append_assoc, List.append_assoc, zSegs_cong (ads2 := fun j => if j = i then ad9 else ads j) i (fun j hj => by rw [if_neg (by omega)])] at hP hD
      have esg : zSegs (fun j => if j = i then ad9 else ads j) cA (wSh (fun _ => 0) 0 (-1)) i ++ z_wr ad9 cA 0 (wSh (fun _ => 0) 0 (-1)) = zSegs (fun j => if j = i then ad9 else ads j) cA (wSh (fun _ => 0) 0 (-1)) (i + 1) := by
        show _ = zSegs (fun j => if j = i then ad9 else ads j) cA (wSh (fun _ => 0) 0 (-1)) i ++ z_wr (if i = i then ad9 else ads i) cA 0 (wSh (fun _ => 0) 0 (-1))
        rw [if_pos rfl]
      rw [esg] at hP hD
      refine lv_iinc (v := Int32.ofInt ((i + 1 : Nat) : Int)) (k := 1) (lv' := [(1, .int (Int32.ofInt ((i + 1 : Nat) : Int))), (0, .ref h0)]) hx hb dX6_init_92 hl rfl (by
        rw [show ((i + 1 : Nat) : Int) = (i : Int) + 1 by omega, Int32.ofInt_add]) (by decide) rfl (fun ls hl => ?_)
      refine lv_goto (tgt := 74) hx hb dX6_init_95 (by decide) ?_
      refine W.widen (k := 98 + 2 * (i + 1)) (n := 835 + 27 * (i + 1)) (by omega) (by omega) ?_
      exact ih (i + 1) (by omega) (fun j => if j = i then ad9 else ads j) H locs ls hP hD hS (lv_sub hl [1, 0] rfl)
  refine W.widen (k := 98 + 2 * 0) (n := 835 + 27 * 0) (Nat.le_of_ble_eq_true rfl) (Nat.le_of_ble_eq_true rfl) ?_
  have erow3 : (fun (_ : Nat) => (none : Option Nat)) = (fun j => if j < 0 then some ((fun _ _ => 0) j 0) else none) := by
    funext j
    rw [if_neg (Nat.not_lt_zero j)]
  rw [erow3] at hP hD
  exact loop 4 0 rfl (fun _ _ => 0) H locs ls (by rw [show zSegs (fun _ _ => 0) cA (wSh (fun _ => 0) 0 (-1)) 0 = [] from rfl, List.append_nil]; exact hP) (by rw [show zSegs (fun _ _ => 0) cA (wSh (fun _ => 0) 0 (-1)) 0 = [] from rfl, List.append_nil]; exact hD) hS (lv_sub hl [1, 0] rfl)
