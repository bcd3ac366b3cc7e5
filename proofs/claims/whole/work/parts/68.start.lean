/-! THE CLAIM OUT OF ONE WALK OF THE LAW'S BODY. Your part is whole_start (and what it stands on); all else here is the same for every law, but numbers. -/
def R_law : String := "FarthestPaysLaw"
def lw_P (b : Addr) (xs : List Int32) (args : Array Value) (s : State) : Prop := args = #[.ref b] ∧ s.IntsAt b xs ∧ xs.length ≤ 3584 ∧ (Jvm.Cond.and given_1 narrow_1).before args s = true
def lw_Q (_ : Array Value) (s : State) (o : Outcome) (t : State) : Prop := o = .returned (some (.int 1)) ∧ Framed s o t [] 600000 7302250
def lw_Z (below : List Frame) (a : Array Value) (s : State) : State → Prop := fun t => ∃ o, t.status = .running ∧ Ended t below o ∧ lw_Q a s o t
/-- the law's own end, with 1 on the stack, nothing written that was there before, its room as the claim has it -/
theorem lw_ret {p : Program} {l : Launch} {e : Env} {s : State} {m : MethodId} {below : List Frame} {meth : Method} {c : Code} {b : Nat} (hx : p.tables.exec = Jvm.exec) (hb : c.code = code) (hr : meth.sig.returnType = ret) (hlocks : meth.locks = false) {pc : Nat} {H : Heap} {ls : Array Slot} (hdg : decode code pc = .ok (.ireturn, 1)) : W p l e room_1 s m #[Value.ref b] below meth c H [] 600000 7302250 (lw_Z below #[Value.ref b] s) (F0 m pc ls [.int 1]) := by
  intro T hT X
  obtain ⟨fs, hret, hrun, hended, hW, hframe⟩ := X.leave (v := some (.int 1)) (hlocks := hlocks) (fun h => by rw [hr] at h; cases h)
  have hmeth' : T.vm.method? m = some meth := X.method'
  refine ⟨T.setFrames fs, ?_, .returned (some (.int 1)), hrun, hended, rfl, ⟨_, rfl⟩, hW, hframe⟩
  jvm_step X.here [X.here.top, hx, hb, hdg, hmeth', hr, ret, narrow_b1]
  (try refine ⟨rfl, ?_⟩); (try refine ⟨rfl, ?_⟩)
  first | (intro acts; rw [hret _ acts rfl rfl rfl]) | rw [hret _ _ rfl rfl rfl]
  exact Steps.refl _
/-- what holds at the law's entry: the machine, the code, the tables' words (any of lw_tbl by 'hts w (by decide +kernel)'), the script of L ints xs at the cell b, what the Statement gives of the start (any of its parts by flat_of_before) -/
def lw_At (p : Program) (s : State) (m : MethodId) (meth : Method) (c : Code) (b L : Nat) (xs : Nat → Int32) : Prop :=
  p.tables.exec = Jvm.exec ∧ c.code = code ∧ meth.sig.returnType = ret ∧ c.maxLocals = 4 ∧ s.vm.findClass R_law = some m.cls ∧ (∀ w ∈ lw_tbl, w.before #[Value.ref b] s = true) ∧ va_X b L xs s s.heap ∧ b < s.heap.size ∧ meth.locks = false ∧ (Jvm.Cond.and given_1 narrow_1).before #[Value.ref b] s = true
theorem d_law_0 : decode code 0 = .ok (.new 7, 3) := by decide +kernel
theorem d_law_3 : decode code 3 = .ok (.dup, 1) := by decide +kernel
theorem d_law_4 : decode code 4 = .ok (.invokespecial 9, 3) := by decide +kernel
theorem d_law_7 : decode code 7 = .ok (.astore_n 1, 1) := by decide +kernel
theorem d_law_8 : decode code 8 = .ok (.new 10, 3) := by decide +kernel
theorem d_law_11 : decode code 11 = .ok (.dup, 1) := by decide +kernel
theorem d_law_12 : decode code 12 = .ok (.invokespecial 12, 3) := by decide +kernel
theorem d_law_15 : decode code 15 = .ok (.astore_n 2, 1) := by decide +kernel
theorem d_law_16 : decode code 16 = .ok (.iconst 0, 1) := by decide +kernel
theorem d_law_17 : decode code 17 = .ok (.istore_n 3, 1) := by decide +kernel
/-- the rules of the law's body hold of the machine -/
theorem lw_rules {p : Program} {e : Env} {s : State} {m : MethodId} {below : List Frame} {meth : Method} {c : Code} {l : Launch} {b L : Nat} {xs : Nat → Int32} (C0 : lw_At p s m meth c b L xs) {D : va_G} {cA : Nat → ClassId} {ad : Nat → Nat} {f : Int → Int}
    (X : z_X p s m #[Value.ref b] c code "FarthestPaysLaw" D cA ad (fun q => s.heap.size ≤ q) 122 4 (some (L, f))) :
    zLaw (L, f) (z_G p l e room_1 s m #[Value.ref b] below meth c 122 1548 (lw_Z below #[Value.ref b] s) D cA ad (fun q => s.heap.size ≤ q) 122 4) := by
  obtain ⟨hx, hb, hr, -, -, -, -, -, hlocks, -⟩ := C0
  have hft : z_fok "FarthestPaysLaw" [] := fun q h => absurd h List.not_mem_nil
  have hct : z_cok "FarthestPaysLaw" ([], [(39, 4294967295)]) := ⟨fun q h => absurd h List.not_mem_nil, List.forall_mem_cons.mpr ⟨z_mem 1061 (by decide +kernel) (by decide +kernel), fun _ h => absurd h List.not_mem_nil⟩⟩
  have hR : z_RR code (fun v _ => v = some (.inl 1)) (z_G p l e room_1 s m #[Value.ref b] below meth c 122 1548 (lw_Z below #[Value.ref b] s) D cA ad (fun q => s.heap.size ≤ q) 122 4) := by
    refine ⟨fun pc ls x ws hd h hlen H locs ls' hP hS hl => ?_, fun pc ls x ws hd h hlen H locs ls' hP hS hl => (by cases h), fun pc ls ws hd h hlen H locs ls' hP hS hl => (by cases h)⟩
    obtain rfl : x = 1 := by cases h; rfl
    refine va_forget (fun q hq => hS.2.2 q hq) ?_
    refine W.widen (k := 600000) (n := 7302250) (Nat.le_of_ble_eq_true rfl) (Nat.le_of_ble_eq_true rfl) ?_
    exact lw_ret hx hb hr hlocks hd
  refine ⟨fun tb htb htl stops n pc ls st ws hz h => ?_, @fun tb htb y' k0 As w' P' hM n ci i hy hlk hroom hn fs hk π hnd ws hw pc nx ps ls st rest hpc hst hcat kk => ?_⟩
  · exact z_go X htb hft hct hR stops n pc ls st ws (z_runE (G0 := fun pc ls st _ => z_G p l e room_1 s m #[Value.ref b] below meth c 122 1548 (lw_Z below #[Value.ref b] s) D cA ad (fun q => s.heap.size ≤ q) 122 4 pc ls st ws) hz (fun _ h => h) (fun _ _ _ h => h) htl stops n pc ls st h)
  · exact z_callV X htb ⟨Nat.le_of_ble_eq_true rfl, Nat.le_of_ble_eq_true rfl⟩ hM hy hlk hroom hn hk π hnd hw hpc hst hcat kk
set_option maxHeartbeats 4000000 in
set_option maxRecDepth 100000 in
/-- from the entry, for every script of at most 3584 ints, the law comes to its end with true -/
theorem whole_start {p : Program} {e : Env} {s : State} {m : MethodId} {below : List Frame} {meth : Method} {c : Code} (l : Launch) (hflags : l.flags = flags0) {b L : Nat} {xs : Nat → Int32} (hL : L ≤ 3584) (C0 : lw_At p s m meth c b L xs) : W p l e room_1 s m #[Value.ref b] below meth c s.heap [] 0 0 (lw_Z below #[Value.ref b] s) (entryFrame m ([Value.ref b] : List Value).toArray 4) := by
  obtain ⟨hx, hb, hr, hml, hown, hts, hX, hbl, hlocks, hgv⟩ := id C0
  obtain ⟨⟨D, cA, hK⟩, hN, hO⟩ := lw_known hts
  have hz : ∀ w ∈ z_tbl, w.before #[Value.ref b] s = true := fun w hw => hts w (List.mem_filter.mp hw).1
  have hA : ∀ q : Nat, s.heap.size ≤ q → (fun q : Nat => s.heap.size ≤ q) q := fun _ h => h
  have hbA : ¬ (fun q : Nat => s.heap.size ≤ q) b := Nat.not_le.mpr hbl
  have hS : va_S (fun q : Nat => s.heap.size ≤ q) s.heap s.heap [] := va_S.rf
  have hP : va_P D classes [] s.heap := fun k q h => by simp at h
  have hD : va_D (fun q : Nat => s.heap.size ≤ q) [] := ⟨fun i j p q h => by simp at h, fun k q h => by simp at h⟩
  have hl := lv_entry ([.ref b]) (n := 4) (Nat.le_of_ble_eq_true rfl)
  rw [lg_entry_eq]
  generalize (lg_sl ([.ref b]) ++ List.replicate (4 - (lg_sl ([.ref b])).length) Slot.unset).toArray = ls at hl ⊢
  have hl : lv_has ls 4 [(0, .ref b)] := hl
  refine va_new (ci := 6) (fs := [.null, .null, .int 0, .null, .null, .null, .null]) (C := RX6) (T := TX6) (N := 7) hx hb hz izX6 tyX6 tyX6_ok hown (hz (.classLink R_law 7 RX6) (z_mem 60 (by decide +kernel) (by decide +kernel))) (hz (.instantiable RX6 7) (z_mem 61 (by decide +kernel) (by decide +kernel))) (hz (.initialized RX6) (z_mem 49 (by decide +kernel) (by decide +kernel))) hK hP hD hS hA rfl (fun j hj => by rcases (show j = 0 ∨ j = 1 ∨ j = 2 ∨ j = 3 ∨ j = 4 ∨ j = 5 ∨ j = 6 by omega) with rfl | rfl | rfl | rfl | rfl | rfl | rfl <;> rfl) (Nat.le_of_ble_eq_true rfl) (Nat.le_of_ble_eq_true rfl) d_law_0 (fun q0 H hP hD hS => ?_)
  refine W.widen (k := 1) (n := 7) (Nat.le_of_ble_eq_true rfl) (Nat.le_of_ble_eq_true rfl) ?_
  refine lv_dup hx hb d_law_3 rfl ?_
  refine zCallI (L := []) hx hb hml hown hz hK hN hO c_Fp_init yI_Fp (i := 9) (Or.inl (z_mem 62 (by decide +kernel) (by decide +kernel))) ⟨Nat.le_of_ble_eq_true rfl, Nat.le_of_ble_eq_true rfl⟩ ⟨Nat.le_of_ble_eq_true rfl, Nat.le_of_ble_eq_true rfl⟩ hP hD hS hA hl.1 (Nat.le_of_ble_eq_true rfl) d_law_4 (fun adF H locs eF hP hD hS => ?_)
  have hP : va_P D classes (z_wr adF cA 0 zV1) H := hP
  have hD : va_D (fun q : Nat => s.heap.size ≤ q) (z_wr adF cA 0 zV1) := hD
  refine W.widen (k := 107) (n := 950) (Nat.le_of_ble_eq_true rfl) (Nat.le_of_ble_eq_true rfl) ?_
  refine lv_astore_n (lv' := [(1, .ref q0), (0, .ref b)]) hx hb d_law_7 rfl hl (by decide) rfl (fun ls hl => ?_)
  refine va_new (ci := 7) (fs := [.null, .null, .null, .null, .int 0, .null, .null, .null, .null, .int 0, .null, .int 0, .int 0, .int 0, .null, .int 0, .int 0, .null, .int 0, .int 0, .null, .null, .null]) (C := RX7) (T := TX7) (N := 23) hx hb hz izX7 tyX7 tyX7_ok hown (hz (.classLink R_law 10 RX7) (z_mem 714 (by decide +kernel) (by decide +kernel))) (hz (.instantiable RX7 23) (z_mem 715 (by decide +kernel) (by decide +kernel))) (hz (.initialized RX7) (z_mem 56 (by decide +kernel) (by decide +kernel))) hK hP hD hS hA rfl (fun j hj => by rcases (show j = 0 ∨ j = 1 ∨ j = 2 ∨ j = 3 ∨ j = 4 ∨ j = 5 ∨ j = 6 ∨ j = 7 ∨ j = 8 ∨ j = 9 ∨ j = 10 ∨ j = 11 ∨ j = 12 ∨ j = 13 ∨ j = 14 ∨ j = 15 ∨ j = 16 ∨ j = 17 ∨ j = 18 ∨ j = 19 ∨ j = 20 ∨ j = 21 ∨ j = 22 by omega) with rfl | rfl | rfl | rfl | rfl | rfl | rfl | rfl | rfl | rfl | rfl | rfl | rfl | rfl | rfl | rfl | rfl | rfl | rfl | rfl | rfl | rfl | rfl <;> rfl) (Nat.le_of_ble_eq_true rfl) (Nat.le_of_ble_eq_true rfl) d_law_8 (fun q1 H hP hD hS => ?_)
  refine W.widen (k := 108) (n := 973) (Nat.le_of_ble_eq_true rfl) (Nat.le_of_ble_eq_true rfl) ?_
  refine lv_dup hx hb d_law_11 rfl ?_
  refine zCallI (L := z_wr adF cA 0 zV1) hx hb hml hown hz hK hN hO c_Mo_init yI_Mo (i := 12) (Or.inl (z_mem 716 (by decide +kernel) (by decide +kernel))) ⟨Nat.le_of_ble_eq_true rfl, Nat.le_of_ble_eq_true rfl⟩ ⟨Nat.le_of_ble_eq_true rfl, Nat.le_of_ble_eq_true rfl⟩ hP hD hS hA hl.1 (Nat.le_of_ble_eq_true rfl) d_law_12 (fun adM H locs eM hP hD hS => ?_)
  have hP : va_P D classes (z_wr adF cA 0 zV1 ++ z_wr adM cA 0 zWM0) H := hP
  have hD : va_D (fun q : Nat => s.heap.size ≤ q) (z_wr adF cA 0 zV1 ++ z_wr adM cA 0 zWM0) := hD
  refine W.widen (k := 122) (n := 1548) (Nat.le_of_ble_eq_true rfl) (Nat.le_of_ble_eq_true rfl) ?_
  refine lv_astore_n (lv' := [(2, .ref q1), (1, .ref q0), (0, .ref b)]) hx hb d_law_15 rfl hl (by decide) rfl (fun ls hl => ?_)
  refine lv_iconst (v := Int32.ofInt 0) hx hb d_law_16 (by decide) ?_
  refine lv_istore_n (lv' := [(3, .int (Int32.ofInt 0)), (2, .ref q1), (1, .ref q0), (0, .ref b)]) hx hb d_law_17 rfl hl (by decide) rfl (fun ls hl => ?_)
  -- the two together
  obtain ⟨ad, had⟩ : ∃ g : Nat → Nat, g = fun k => if k < 107 then adF k else if k < 122 then adM (k - 107) else b := ⟨_, rfl⟩
  have hfn : ∀ k, ad k = if k < 107 then adF k else if k < 122 then adM (k - 107) else b := fun k => by rw [had]
  have aF : ∀ k, k < 107 → ad k = adF k := fun k hk => by rw [hfn, if_pos hk]
  have aM : ∀ k, k < 15 → ad (107 + k) = adM k := fun k hk => by rw [hfn, if_neg (by omega), if_pos (by omega), Nat.add_sub_cancel_left]
  have a9 : ad 9999 = b := by rw [hfn, if_neg (by omega), if_neg (by omega)]
  have hat : ∀ k, k < 122 → ∃ x, (z_wr adF cA 0 zV1 ++ z_wr adM cA 0 zWM0)[k]? = some (ad k, x) := by
    have lF : (z_wr adF cA 0 zV1).length = 107 := by
      have h1 := congrArg List.length (z_wr_fst adF cA zV1 0)
      rw [List.length_map, List.length_map, List.length_range'] at h1
      exact h1.trans zV1_len
    intro k hk
    by_cases h : k < 107
    · rw [List.getElem?_append_left (by rw [lF]; exact h), z_wr_get, List.getElem?_eq_getElem (by rw [zV1_len]; exact h)]
      refine ⟨z_e adF cA (zV1[k]'(by rw [zV1_len]; exact h)), ?_⟩
      show some (adF (0 + k), _) = some (ad k, _)
      rw [Nat.zero_add, aF k h]
    · rw [List.getElem?_append_right (by rw [lF]; omega), lF, z_wr_get, List.getElem?_eq_getElem (by rw [zWM0_len]; omega)]
      refine ⟨z_e adM cA (zWM0[k - 107]'(by rw [zWM0_len]; omega)), ?_⟩
      show some (adM (0 + (k - 107)), _) = some (ad k, _)
      rw [Nat.zero_add, ← aM (k - 107) (by omega), show 107 + (k - 107) = k by omega]
  have hinj : ∀ i j : Nat, i < 122 → j < 122 → ad i = ad j → i = j := fun i j hi hj h => by
    obtain ⟨x, h1⟩ := hat i hi
    obtain ⟨y, h2⟩ := hat j hj
    exact hD.1 i j _ _ h1 h2 h
  have hAd : ∀ k : Nat, k < 122 → (fun q : Nat => s.heap.size ≤ q) (ad k) := fun k hk => by
    obtain ⟨x, h1⟩ := hat k hk
    exact hD.2 k _ h1
  have hPF : va_P D classes (z_w ad cA zWF0) H := by
    have h1 := zP_seg (ad' := ad) (o := 0) (n := 106) (fun k hk => by rw [Nat.zero_add]; exact aF k hk) zV1_cl (Nat.le_of_eq zV1_len) (zP_l hP)
    have h2 : zV1.map (z_ren (List.range' 0 107)) = zV1 := by
      rw [List.map_congr_left (fun c _ => z_ren_id 106 c), List.map_id']
    have h3 : va_P D classes (z_wr ad cA 0 (zV1.map (z_ren (List.range' 0 107)))) H := h1
    rw [h2, ← z_w_wr] at h3
    exact z_weq_P zWF0_weq h3
  have hP9 : va_P D classes (z_w ad cA (zLW zWF0 zWM0)) H := by
    have h1 := zP_seg (ad' := ad) (o := 107) (n := 14) (fun k hk => aM k hk) zWM0_cl (Nat.le_of_eq zWM0_len) (zP_r hP)
    rw [z_w_wr] at hPF ⊢
    show va_P D classes (z_wr ad cA 0 (zWF0 ++ zWM0.map (z_ren (List.range' 107 15)))) H
    rw [z_wr_app, zWF0_len]
    exact va_P.app hPF h1
  have hxs : (fun j : Nat => Int32.ofInt ((fun j : Int => (xs j.toNat).toInt) (j : Int))) = xs := by
    funext j
    show Int32.ofInt (xs ((j : Int)).toNat).toInt = xs j
    rw [Int.toNat_natCast, Int32.ofInt_toInt]
  have X : z_X p s m #[Value.ref b] c code "FarthestPaysLaw" D cA ad (fun q => s.heap.size ≤ q) 122 4 (some (L, fun j : Int => (xs j.toNat).toInt)) := by
    refine ⟨hx, hb, hml, hown, hz, hK, hN, hinj, hAd, fun q h => h, ?_, ?_, ?_⟩
    · show va_X (ad 9999) L (fun j : Nat => Int32.ofInt ((fun j : Int => (xs j.toNat).toInt) (j : Int))) s s.heap
      rw [hxs, a9]; exact hX
    · rw [a9]; exact hbl
    · rw [a9]; exact hbA
  have K := lw_loop (lw_rules (l := l) (e := e) (below := below) C0 X) (fun j => by
    have h1 := Int32.le_toInt (xs j.toNat)
    have h2 := Int32.toInt_lt (xs j.toNat)
    show -2147483648 ≤ (xs j.toNat).toInt ∧ (xs j.toNat).toInt ≤ 2147483647
    omega) (show (L : Int) ≤ 3584 by omega) (L + 1) 0 (Int.le_refl 0) (by omega) (show (L : Int) < 0 + 7 * ((L + 1 : Nat) : Int) + 7 by omega) zWF0 zWM0 zInv_0
  have ez : z_l ad (zLs 0) = [(0, .ref b), (1, .ref q0), (2, .ref q1), (3, .int (Int32.ofInt 0))] := by
    show [(0, Value.ref (ad 9999)), (1, Value.ref (ad 0)), (2, Value.ref (ad 107)), (3, Value.int (Int32.ofInt 0))] = _
    rw [a9, aF 0 (by omega), aM 0 (by omega), eF, eM]
  exact K (zLW_len zWF0_len zWM0_len) H locs ls hP9 hS (by rw [ez]; exact lv_sub hl [3, 2, 1, 0] rfl)
