/-! CONSTRUCTORS: the reference, nights -/
theorem zInj {D : Nat} {ad : Nat → Nat} {cA : Nat → ClassId} {A : Nat → Prop} {V : zW} (hn : V.length = D) (h : va_D A (z_wr ad cA 0 V)) : (∀ i j : Nat, i < D → j < D → ad i = ad j → i = j) ∧ ∀ k : Nat, k < D → A (ad k) := by
  have hat : ∀ k : Nat, k < D → ∃ x, (z_wr ad cA 0 V)[k]? = some (ad k, x) := fun k hk => by
    refine ⟨z_e ad cA (V[k]'(hn ▸ hk)), ?_⟩
    rw [z_wr_get, List.getElem?_eq_getElem (hn ▸ hk), Nat.zero_add]
    rfl
  refine ⟨fun i j hi hj e => ?_, fun k hk => ?_⟩
  · obtain ⟨x, hx⟩ := hat i hi
    obtain ⟨y, hy⟩ := hat j hj
    exact h.1 i j _ _ hx hy e
  · obtain ⟨x, hx⟩ := hat k hk
    exact h.2 k _ hx
def zSegs (ads : Nat → Nat → Nat) (cA : Nat → ClassId) (V : zW) : Nat → va_W
  | 0 => []
  | i + 1 => zSegs ads cA V i ++ z_wr (ads i) cA 0 V
theorem zSegs_cong {ads ads2 : Nat → Nat → Nat} {cA : Nat → ClassId} {V : zW} : ∀ i, (∀ j, j < i → ads j = ads2 j) → zSegs ads cA V i = zSegs ads2 cA V i
  | 0, _ => rfl
  | i + 1, h => by
    show zSegs ads cA V i ++ z_wr (ads i) cA 0 V = zSegs ads2 cA V i ++ z_wr (ads2 i) cA 0 V
    rw [zSegs_cong i (fun j hj => h j (by omega)), h i (by omega)]
theorem zSegs_at {D : va_G} {ads : Nat → Nat → Nat} {cA : Nat → ClassId} {V : zW} {H : Heap} : ∀ {n : Nat}, va_P D classes (zSegs ads cA V n) H → ∀ i, i < n → va_P D classes (z_wr (ads i) cA 0 V) H
  | 0, _, i, hi => absurd hi (Nat.not_lt_zero _)
  | n + 1, h, i, hi => by
    by_cases e : i = n
    · subst e; exact zP_r (a := zSegs ads cA V i) h
    · exact zSegs_at (zP_l (b := z_wr (ads n) cA 0 V) h) i (by omega)
theorem zSegs_fst {ads : Nat → Nat → Nat} {cA : Nat → ClassId} {V : zW} {ad : Nat → Nat} {o r : Nat} (hr : V.length = r) : ∀ n, (∀ i k, i < n → k < r → ad (o + r * i + k) = ads i k) → (zSegs ads cA V n).map (fun q => q.1) = (List.range' o (r * n)).map ad
  | 0, _ => rfl
  | n + 1, h => by
    have h1 := zSegs_fst (ads := ads) (cA := cA) hr n (fun i k hi hk => h i k (by omega) hk)
    show (zSegs ads cA V n ++ z_wr (ads n) cA 0 V).map (fun q => q.1) = _
    rw [List.map_append, h1, z_wr_fst, hr, Nat.mul_succ, ← List.range'_append_1, List.map_append]
    congr 1
    exact z_rg_map r 0 (o + r * n) (fun k hk => by rw [Nat.zero_add, h n k (by omega) hk])
theorem zP_wapp {D : va_G} {ad : Nat → Nat} {cA : Nat → ClassId} {a b : zW} {o : Nat} {H : Heap} (h1 : va_P D classes (z_wr ad cA o a) H) (h2 : va_P D classes (z_wr ad cA (o + a.length) b) H) : va_P D classes (z_wr ad cA o (a ++ b)) H := by
  rw [z_wr_app]; exact va_P.app h1 h2
theorem zP_c {D : va_G} {a : Nat × va_E} {b : va_W} {H : Heap} (h1 : va_at D classes a H) (h2 : va_P D classes b H) : va_P D classes (a :: b) H := va_P.app (w1 := [a]) (fun k q hq => by
  have hz : k < 1 := (List.getElem?_eq_some_iff.mp hq).1
  rw [show k = 0 by omega] at hq
  cases hq; exact h1) h2
theorem zRowUp (ads : Nat → Nat → Nat) (ad1 : Nat → Nat) (i : Nat) : va_up (fun j => if j < i then some (ads j 0) else none) i (some (ad1 0)) = fun j => if j < i + 1 then some ((if j = i then ad1 else ads j) 0) else none := by
  funext j
  show (if j = i then some (ad1 0) else (if j < i then some (ads j 0) else none)) = (if j < i + 1 then some ((if j = i then ad1 else ads j) 0) else none)
  by_cases h1 : j = i
  · simp only [if_pos h1]
    rw [if_pos (show j < i + 1 by omega)]
  · simp only [if_neg h1]
    by_cases h2 : j < i
    · rw [if_pos h2, if_pos (show j < i + 1 by omega)]
    · rw [if_neg h2, if_neg (show ¬ j < i + 1 by omega)]
abbrev zC0 : zCD := ((fun _ => 0), ((fun _ => 0), (0, (0, 0))))
theorem z_newQ0 {p : Program} {l : Launch} {e : Env} {R : Room} {s : State} {m : MethodId} {args : Array Value} {below : List Frame} {meth : Method} {c : Code} {H : Heap} {locs : List Loc} {cells slots : Nat} {Q : State → Prop} {cc : ByteArray} {pc : Nat} {ls : Array Slot} {rest : List Value} {D : va_G} {cA : Nat → ClassId} {A : Nat → Prop} {H0 : Heap} {own : String} {index : Nat} (hx : p.tables.exec = Jvm.exec) (hb : c.code = cc) (hown : s.vm.findClass own = some m.cls) (hcl : (Cond.classLink own index RX0).before args s = true) (hO : z_O s) (hK : va_K D classes (z_t cA) s) {ws : va_W} (hP : va_P D classes ws H) (hD : va_D A ws) (hS : va_S A H0 H locs) (hA : ∀ q, H0.size ≤ q → A q)
    {n : Int32} {N : Nat} (hn : ¬ n < 0) (hN : n.toNatClampNeg = N) (hbytes : N * 4 ≤ 536870912) (hcells : cells + 1 ≤ R.cells) (hslots : slots + N ≤ R.slots) (hdg : decode cc pc = .ok (.anewarray index, 3))
    (kk : ∀ (q : Nat) (H1 : Heap), va_P D classes (ws ++ [(q, .inl (cA 2, (N, .inr (.inr (.inr (.inr (fun _ => none)))))))]) H1 → va_D A (ws ++ [(q, .inl (cA 2, (N, .inr (.inr (.inr (.inr (fun _ => none)))))))]) → va_S A H0 H1 locs → W p l e R s m args below meth c H1 locs (cells + 1) (slots + N) Q (F0 m (pc + 3) ls (.ref q :: rest))) : W p l e R s m args below meth c H locs cells slots Q (F0 m pc ls (.int n :: rest)) := by
  refine va_newq hx hb hown hcl hO.1 hK hP hD hS hA hn hN hbytes hcells hslots hdg (fun q cB H1 hK1 hP1 hD1 hS1 => ?_)
  obtain ⟨_, _, _, _, _, h3⟩ := (hK1.2 4 (cB, .object RX0) rfl).2
  obtain ⟨_, _, _, _, _, h4⟩ := (hK.2 2 (cA 2, .object RX0) rfl).2
  have h5 : cB = cA 2 := Option.some.inj (h3.symm.trans h4)
  subst h5
  exact kk q H1 hP1 hD1 hS1
theorem z_newQ1 {p : Program} {l : Launch} {e : Env} {R : Room} {s : State} {m : MethodId} {args : Array Value} {below : List Frame} {meth : Method} {c : Code} {H : Heap} {locs : List Loc} {cells slots : Nat} {Q : State → Prop} {cc : ByteArray} {pc : Nat} {ls : Array Slot} {rest : List Value} {D : va_G} {cA : Nat → ClassId} {A : Nat → Prop} {H0 : Heap} {own : String} {index : Nat} (hx : p.tables.exec = Jvm.exec) (hb : c.code = cc) (hown : s.vm.findClass own = some m.cls) (hcl : (Cond.classLink own index RX2).before args s = true) (hO : z_O s) (hK : va_K D classes (z_t cA) s) {ws : va_W} (hP : va_P D classes ws H) (hD : va_D A ws) (hS : va_S A H0 H locs) (hA : ∀ q, H0.size ≤ q → A q)
    {n : Int32} {N : Nat} (hn : ¬ n < 0) (hN : n.toNatClampNeg = N) (hbytes : N * 4 ≤ 536870912) (hcells : cells + 1 ≤ R.cells) (hslots : slots + N ≤ R.slots) (hdg : decode cc pc = .ok (.anewarray index, 3))
    (kk : ∀ (q : Nat) (H1 : Heap), va_P D classes (ws ++ [(q, .inl (cA 3, (N, .inr (.inr (.inr (.inr (fun _ => none)))))))]) H1 → va_D A (ws ++ [(q, .inl (cA 3, (N, .inr (.inr (.inr (.inr (fun _ => none)))))))]) → va_S A H0 H1 locs → W p l e R s m args below meth c H1 locs (cells + 1) (slots + N) Q (F0 m (pc + 3) ls (.ref q :: rest))) : W p l e R s m args below meth c H locs cells slots Q (F0 m pc ls (.int n :: rest)) := by
  refine va_newq hx hb hown hcl hO.2 hK hP hD hS hA hn hN hbytes hcells hslots hdg (fun q cB H1 hK1 hP1 hD1 hS1 => ?_)
  obtain ⟨_, _, _, _, _, h3⟩ := (hK1.2 4 (cB, .object RX2) rfl).2
  obtain ⟨_, _, _, _, _, h4⟩ := (hK.2 3 (cA 3, .object RX2) rfl).2
  have h5 : cB = cA 3 := Option.some.inj (h3.symm.trans h4)
  subst h5
  exact kk q H1 hP1 hD1 hS1
def tb_Mo_init : List (Nat × zI) := [(114, (.iconst 0, (115, []))), (115, (.istore_n 1, (116, [1]))), (116, (.iload_n 1, (117, [1]))), (117, (.iconst 4, (118, []))), (118, (.if_icmp .ge 16, (121, [134]))), (121, (.aload_n 0, (122, [0]))), (122, (.getfield 43, (125, []))), (125, (.iload_n 1, (126, [1]))), (126, (.iconst (-1), (127, []))), (127, (.iastore, (128, []))), (128, (.iinc 1 1, (131, [1]))), (131, (.goto (-15), (134, [116]))), (134, (.return_, (135, [])))]
set_option maxRecDepth 20000 in
theorem tk_Mo_init : tb_Mo_init.all (z_ent cX7_init 2) = true := by decide +kernel
set_option maxHeartbeats 4000000 in
set_option maxRecDepth 100000 in
theorem c_Mo_init : zInit yX7_init cX7_init 2 1 12 14 575 7 [.null, .null, .null, .null, .int 0, .null, .null, .null, .null, .int 0, .null, .int 0, .int 0, .int 0, .null, .int 0, .int 0, .null, .int 0, .int 0, .null, .null, .null] (wMo (fun _ => 0) (fun _ => 0) (fun _ => 0) 0 (fun _ => 0) (fun _ => 0) (fun _ => 0) (fun _ => 0) (fun _ => 0) 0 (fun _ => 0) 0 0 0 (fun _ => 0) 0 0 (fun _ => 0) 0 0 (z_u (z_u (z_u (z_u (fun _ => 0) 0 (-1)) 1 (-1)) 2 (-1)) 3 (-1)) (fun _ => 0) (fun _ => 0)) := by
  intro l D cA h0 sz
  refine Met.ofW (cc := cX7_init) (maxL := 2) (ret := none) (by decide +kernel) rfl ?_
  intro p e s m args below meth c s₁ B hml hv
  obtain ⟨rfl, hsz, hP, hK, hN, hO, hD0⟩ := hv
  have hx := B.exec
  have hb := B.bytes
  have hr := B.returns
  have hts0 := atoms_spec (ws := Cond.code yX7_init cX7_init 2 none :: z_tbl) B.pre
  have hts : ∀ w ∈ z_tbl, w.before ([.ref h0] : List Value).toArray s = true := fun w hw => hts0 w (List.mem_cons_of_mem _ hw)
  have hown : s.vm.findClass RX7 = some m.cls := findClass_of_methodNamed B.named
  have hlocks := B.notSynchronized
  have hin : meth.name = "<init>" := (name_of_methodNamed B.named B.method).1
  subst hsz
  have hD := hD0.self (sz := s.heap.size)
  generalize hAe : va_A [(h0, .inr (7, [.null, .null, .null, .null, .int 0, .null, .null, .null, .null, .int 0, .null, .int 0, .int 0, .int 0, .null, .int 0, .int 0, .null, .int 0, .int 0, .null, .null, .null]))] s.heap.size = A at hD ⊢
  have hA : ∀ q : Nat, s.heap.size ≤ q → A q := fun q h => by rw [← hAe]; exact Or.inr h
  have hS : va_S A s.heap s.heap [] := va_S.rf
  have hP : va_P D classes [(h0, .inr (7, [.null, .null, .null, .null, .int 0, .null, .null, .null, .null, .int 0, .null, .int 0, .int 0, .int 0, .null, .int 0, .int 0, .null, .int 0, .int 0, .null, .null, .null]))] s.heap := hP
  have hl := lv_entry ([.ref h0]) (n := 2) (Nat.le_of_ble_eq_true rfl)
  rw [lg_entry_eq]
  generalize (lg_sl ([.ref h0]) ++ List.replicate (2 - (lg_sl ([.ref h0])).length) Slot.unset).toArray = ls at hl ⊢
  have hl : lv_has ls 2 [(0, .ref h0)] := hl
  refine lv_aload_n hx hb dX7_init_0 rfl (lv_at hl 0 rfl) ?_
  refine W.objInit hx hb hown (hts (.methodLink RX7 1 objectInit) (z_mem 719 (by decide +kernel) (by decide +kernel))) (hts (.instanceMethod objectInit) (z_mem 66 (by decide +kernel) (by decide +kernel))) (hts (.code objectInit ⟨#[0xb1]⟩ 1 none) (z_mem 67 (by decide +kernel) (by decide +kernel))) rfl (by rw [hml]; exact hl.1) rfl dX7_init_1 (Nat.le_of_ble_eq_true rfl) (Nat.le_of_ble_eq_true rfl) ?_
  refine W.eq (g2 := F0 m 4 ls []) rfl ?_
  refine lv_aload_n hx hb dX7_init_4 rfl (lv_at hl 0 rfl) ?_
  refine lv_bipush (v := 21) hx hb dX7_init_5 (by decide) ?_
  refine z_newI hx hb hts hK hP hD hS hA (N := 21) (by decide) (by decide) (Nat.le_of_ble_eq_true rfl) (Nat.le_of_ble_eq_true rfl) (Nat.le_of_ble_eq_true rfl) dX7_init_7 (fun q1 H hP hD hS => ?_)
  refine W.widen (k := 1) (n := 21) (Nat.le_of_ble_eq_true rfl) (Nat.le_of_ble_eq_true rfl) ?_
  have hP : va_P D classes ([(h0, .inr (7, [.null, .null, .null, .null, .int 0, .null, .null, .null, .null, .int 0, .null, .int 0, .int 0, .int 0, .null, .int 0, .int 0, .null, .int 0, .int 0, .null, .null, .null])), (q1, .inl (cA 0, (21, .inl (fun _ => 0))))]) H := hP
  have hD : va_D A ([(h0, .inr (7, [.null, .null, .null, .null, .int 0, .null, .null, .null, .null, .int 0, .null, .int 0, .int 0, .int 0, .null, .int 0, .int 0, .null, .int 0, .int 0, .null, .null, .null])), (q1, .inl (cA 0, (21, .inl (fun _ => 0))))]) := hD
  refine va_putF (D := D) (ci := 7) (v := (.ref q1)) (ty := (.array .int)) (C := RX7) (T := TX7) (N := 23) hx hb hts izX7 tyX7 tyX7_ok nmX7 hown hK hP hD hS 0 rfl rfl 0 (by decide) (hts (.fieldLink RX7 7 "FarthestPaysModel" "weights" "[I") (z_mem 720 (by decide +kernel) (by decide +kernel))) (fun _ h9 => h9) rfl hin rfl (by decide +kernel) rfl rfl (Nat.le_of_ble_eq_true rfl) dX7_init_9 (fun H locs hP hD hS => ?_)
  have hP : va_P D classes ([(h0, .inr (7, [(.ref q1), .null, .null, .null, .int 0, .null, .null, .null, .null, .int 0, .null, .int 0, .int 0, .int 0, .null, .int 0, .int 0, .null, .int 0, .int 0, .null, .null, .null])), (q1, .inl (cA 0, (21, .inl (fun _ => 0))))]) H := hP
  have hD : va_D A ([(h0, .inr (7, [(.ref q1), .null, .null, .null, .int 0, .null, .null, .null, .null, .int 0, .null, .int 0, .int 0, .int 0, .null, .int 0, .int 0, .null, .int 0, .int 0, .null, .null, .null])), (q1, .inl (cA 0, (21, .inl (fun _ => 0))))]) := hD
  refine lv_aload_n hx hb dX7_init_12 rfl (lv_at hl 0 rfl) ?_
  refine lv_bipush (v := 9) hx hb dX7_init_13 (by decide) ?_
  refine z_newI hx hb hts hK hP hD hS hA (N := 9) (by decide) (by decide) (Nat.le_of_ble_eq_true rfl) (Nat.le_of_ble_eq_true rfl) (Nat.le_of_ble_eq_true rfl) dX7_init_15 (fun q2 H hP hD hS => ?_)
  refine W.widen (k := 2) (n := 30) (Nat.le_of_ble_eq_true rfl) (Nat.le_of_ble_eq_true rfl) ?_
  have hP : va_P D classes ([(h0, .inr (7, [(.ref q1), .null, .null, .null, .int 0, .null, .null, .null, .null, .int 0, .null, .int 0, .int 0, .int 0, .null, .int 0, .int 0, .null, .int 0, .int 0, .null, .null, .null])), (q1, .inl (cA 0, (21, .inl (fun _ => 0)))), (q2, .inl (cA 0, (9, .inl (fun _ => 0))))]) H := hP
  have hD : va_D A ([(h0, .inr (7, [(.ref q1), .null, .null, .null, .int 0, .null, .null, .null, .null, .int 0, .null, .int 0, .int 0, .int 0, .null, .int 0, .int 0, .null, .int 0, .int 0, .null, .null, .null])), (q1, .inl (cA 0, (21, .inl (fun _ => 0)))), (q2, .inl (cA 0, (9, .inl (fun _ => 0))))]) := hD
  refine va_putF (D := D) (ci := 7) (v := (.ref q2)) (ty := (.array .int)) (C := RX7) (T := TX7) (N := 23) hx hb hts izX7 tyX7 tyX7_ok nmX7 hown hK hP hD hS 0 rfl rfl 1 (by decide) (hts (.fieldLink RX7 13 "FarthestPaysModel" "kinds" "[I") (z_mem 721 (by decide +kernel) (by decide +kernel))) (fun _ h9 => h9) rfl hin rfl (by decide +kernel) rfl rfl (Nat.le_of_ble_eq_true rfl) dX7_init_17 (fun H locs hP hD hS => ?_)
  have hP : va_P D classes ([(h0, .inr (7, [(.ref q1), (.ref q2), .null, .null, .int 0, .null, .null, .null, .null, .int 0, .null, .int 0, .int 0, .int 0, .null, .int 0, .int 0, .null, .int 0, .int 0, .null, .null, .null])), (q1, .inl (cA 0, (21, .inl (fun _ => 0)))), (q2, .inl (cA 0, (9, .inl (fun _ => 0))))]) H := hP
  have hD : va_D A ([(h0, .inr (7, [(.ref q1), (.ref q2), .null, .null, .int 0, .null, .null, .null, .null, .int 0, .null, .int 0, .int 0, .int 0, .null, .int 0, .int 0, .null, .int 0, .int 0, .null, .null, .null])), (q1, .inl (cA 0, (21, .inl (fun _ => 0)))), (q2, .inl (cA 0, (9, .inl (fun _ => 0))))]) := hD
  refine lv_aload_n hx hb dX7_init_20 rfl (lv_at hl 0 rfl) ?_
  refine lv_bipush (v := 9) hx hb dX7_init_21 (by decide) ?_
  refine z_newI hx hb hts hK hP hD hS hA (N := 9) (by decide) (by decide) (Nat.le_of_ble_eq_true rfl) (Nat.le_of_ble_eq_true rfl) (Nat.le_of_ble_eq_true rfl) dX7_init_23 (fun q3 H hP hD hS => ?_)
  refine W.widen (k := 3) (n := 39) (Nat.le_of_ble_eq_true rfl) (Nat.le_of_ble_eq_true rfl) ?_
  have hP : va_P D classes ([(h0, .inr (7, [(.ref q1), (.ref q2), .null, .null, .int 0, .null, .null, .null, .null, .int 0, .null, .int 0, .int 0, .int 0, .null, .int 0, .int 0, .null, .int 0, .int 0, .null, .null, .null])), (q1, .inl (cA 0, (21, .inl (fun _ => 0)))), (q2, .inl (cA 0, (9, .inl (fun _ => 0)))), (q3, .inl (cA 0, (9, .inl (fun _ => 0))))]) H := hP
  have hD : va_D A ([(h0, .inr (7, [(.ref q1), (.ref q2), .null, .null, .int 0, .null, .null, .null, .null, .int 0, .null, .int 0, .int 0, .int 0, .null, .int 0, .int 0, .null, .int 0, .int 0, .null, .null, .null])), (q1, .inl (cA 0, (21, .inl (fun _ => 0)))), (q2, .inl (cA 0, (9, .inl (fun _ => 0)))), (q3, .inl (cA 0, (9, .inl (fun _ => 0))))]) := hD
  refine va_putF (D := D) (ci := 7) (v := (.ref q3)) (ty := (.array .int)) (C := RX7) (T := TX7) (N := 23) hx hb hts izX7 tyX7 tyX7_ok nmX7 hown hK hP hD hS 0 rfl rfl 2 (by decide) (hts (.fieldLink RX7 16 "FarthestPaysModel" "slips" "[I") (z_mem 722 (by decide +kernel) (by decide +kernel))) (fun _ h9 => h9) rfl hin rfl (by decide +kernel) rfl rfl (Nat.le_of_ble_eq_true rfl) dX7_init_25 (fun H locs hP hD hS => ?_)
  have hP : va_P D classes ([(h0, .inr (7, [(.ref q1), (.ref q2), (.ref q3), .null, .int 0, .null, .null, .null, .null, .int 0, .null, .int 0, .int 0, .int 0, .null, .int 0, .int 0, .null, .int 0, .int 0, .null, .null, .null])), (q1, .inl (cA 0, (21, .inl (fun _ => 0)))), (q2, .inl (cA 0, (9, .inl (fun _ => 0)))), (q3, .inl (cA 0, (9, .inl (fun _ => 0))))]) H := hP
  have hD : va_D A ([(h0, .inr (7, [(.ref q1), (.ref q2), (.ref q3), .null, .int 0, .null, .null, .null, .null, .int 0, .null, .int 0, .int 0, .int 0, .null, .int 0, .int 0, .null, .int 0, .int 0, .null, .null, .null])), (q1, .inl (cA 0, (21, .inl (fun _ => 0)))), (q2, .inl (cA 0, (9, .inl (fun _ => 0)))), (q3, .inl (cA 0, (9, .inl (fun _ => 0))))]) := hD
  refine lv_aload_n hx hb dX7_init_28 rfl (lv_at hl 0 rfl) ?_
  refine lv_iconst (v := 2) hx hb dX7_init_29 (by decide) ?_
  refine z_newI hx hb hts hK hP hD hS hA (N := 2) (by decide) (by decide) (Nat.le_of_ble_eq_true rfl) (Nat.le_of_ble_eq_true rfl) (Nat.le_of_ble_eq_true rfl) dX7_init_30 (fun q4 H hP hD hS => ?_)
  refine W.widen (k := 4) (n := 41) (Nat.le_of_ble_eq_true rfl) (Nat.le_of_ble_eq_true rfl) ?_
  have hP : va_P D classes ([(h0, .inr (7, [(.ref q1), (.ref q2), (.ref q3), .null, .int 0, .null, .null, .null, .null, .int 0, .null, .int 0, .int 0, .int 0, .null, .int 0, .int 0, .null, .int 0, .int 0, .null, .null, .null])), (q1, .inl (cA 0, (21, .inl (fun _ => 0)))), (q2, .inl (cA 0, (9, .inl (fun _ => 0)))), (q3, .inl (cA 0, (9, .inl (fun _ => 0)))), (q4, .inl (cA 0, (2, .inl (fun _ => 0))))]) H := hP
  have hD : va_D A ([(h0, .inr (7, [(.ref q1), (.ref q2), (.ref q3), .null, .int 0, .null, .null, .null, .null, .int 0, .null, .int 0, .int 0, .int 0, .null, .int 0, .int 0, .null, .int 0, .int 0, .null, .null, .null])), (q1, .inl (cA 0, (21, .inl (fun _ => 0)))), (q2, .inl (cA 0, (9, .inl (fun _ => 0)))), (q3, .inl (cA 0, (9, .inl (fun _ => 0)))), (q4, .inl (cA 0, (2, .inl (fun _ => 0))))]) := hD
  refine va_putF (D := D) (ci := 7) (v := (.ref q4)) (ty := (.array .int)) (C := RX7) (T := TX7) (N := 23) hx hb hts izX7 tyX7 tyX7_ok nmX7 hown hK hP hD hS 0 rfl rfl 3 (by decide) (hts (.fieldLink RX7 19 "FarthestPaysModel" "laws" "[I") (z_mem 723 (by decide +kernel) (by decide +kernel))) (fun _ h9 => h9) rfl hin rfl (by decide +kernel) rfl rfl (Nat.le_of_ble_eq_true rfl) dX7_init_32 (fun H locs hP hD hS => ?_)
  have hP : va_P D classes ([(h0, .inr (7, [(.ref q1), (.ref q2), (.ref q3), (.ref q4), .int 0, .null, .null, .null, .null, .int 0, .null, .int 0, .int 0, .int 0, .null, .int 0, .int 0, .null, .int 0, .int 0, .null, .null, .null])), (q1, .inl (cA 0, (21, .inl (fun _ => 0)))), (q2, .inl (cA 0, (9, .inl (fun _ => 0)))), (q3, .inl (cA 0, (9, .inl (fun _ => 0)))), (q4, .inl (cA 0, (2, .inl (fun _ => 0))))]) H := hP
  have hD : va_D A ([(h0, .inr (7, [(.ref q1), (.ref q2), (.ref q3), (.ref q4), .int 0, .null, .null, .null, .null, .int 0, .null, .int 0, .int 0, .int 0, .null, .int 0, .int 0, .null, .int 0, .int 0, .null, .null, .null])), (q1, .inl (cA 0, (21, .inl (fun _ => 0)))), (q2, .inl (cA 0, (9, .inl (fun _ => 0)))), (q3, .inl (cA 0, (9, .inl (fun _ => 0)))), (q4, .inl (cA 0, (2, .inl (fun _ => 0))))]) := hD
  refine lv_aload_n hx hb dX7_init_35 rfl (lv_at hl 0 rfl) ?_
  refine lv_bipush (v := 12) hx hb dX7_init_36 (by decide) ?_
  refine z_newI hx hb hts hK hP hD hS hA (N := 12) (by decide) (by decide) (Nat.le_of_ble_eq_true rfl) (Nat.le_of_ble_eq_true rfl) (Nat.le_of_ble_eq_true rfl) dX7_init_38 (fun q5 H hP hD hS => ?_)
  refine W.widen (k := 5) (n := 53) (Nat.le_of_ble_eq_true rfl) (Nat.le_of_ble_eq_true rfl) ?_
  have hP : va_P D classes ([(h0, .inr (7, [(.ref q1), (.ref q2), (.ref q3), (.ref q4), .int 0, .null, .null, .null, .null, .int 0, .null, .int 0, .int 0, .int 0, .null, .int 0, .int 0, .null, .int 0, .int 0, .null, .null, .null])), (q1, .inl (cA 0, (21, .inl (fun _ => 0)))), (q2, .inl (cA 0, (9, .inl (fun _ => 0)))), (q3, .inl (cA 0, (9, .inl (fun _ => 0)))), (q4, .inl (cA 0, (2, .inl (fun _ => 0)))), (q5, .inl (cA 0, (12, .inl (fun _ => 0))))]) H := hP
  have hD : va_D A ([(h0, .inr (7, [(.ref q1), (.ref q2), (.ref q3), (.ref q4), .int 0, .null, .null, .null, .null, .int 0, .null, .int 0, .int 0, .int 0, .null, .int 0, .int 0, .null, .int 0, .int 0, .null, .null, .null])), (q1, .inl (cA 0, (21, .inl (fun _ => 0)))), (q2, .inl (cA 0, (9, .inl (fun _ => 0)))), (q3, .inl (cA 0, (9, .inl (fun _ => 0)))), (q4, .inl (cA 0, (2, .inl (fun _ => 0)))), (q5, .inl (cA 0, (12, .inl (fun _ => 0))))]) := hD
  refine va_putF (D := D) (ci := 7) (v := (.ref q5)) (ty := (.array .int)) (C := RX7) (T := TX7) (N := 23) hx hb hts izX7 tyX7 tyX7_ok nmX7 hown hK hP hD hS 0 rfl rfl 5 (by decide) (hts (.fieldLink RX7 22 "FarthestPaysModel" "nightSums" "[I") (z_mem 725 (by decide +kernel) (by decide +kernel))) (fun _ h9 => h9) rfl hin rfl (by decide +kernel) rfl rfl (Nat.le_of_ble_eq_true rfl) dX7_init_40 (fun H locs hP hD hS => ?_)
  have hP : va_P D classes ([(h0, .inr (7, [(.ref q1), (.ref q2), (.ref q3), (.ref q4), .int 0, (.ref q5), .null, .null, .null, .int 0, .null, .int 0, .int 0, .int 0, .null, .int 0, .int 0, .null, .int 0, .int 0, .null, .null, .null])), (q1, .inl (cA 0, (21, .inl (fun _ => 0)))), (q2, .inl (cA 0, (9, .inl (fun _ => 0)))), (q3, .inl (cA 0, (9, .inl (fun _ => 0)))), (q4, .inl (cA 0, (2, .inl (fun _ => 0)))), (q5, .inl (cA 0, (12, .inl (fun _ => 0))))]) H := hP
  have hD : va_D A ([(h0, .inr (7, [(.ref q1), (.ref q2), (.ref q3), (.ref q4), .int 0, (.ref q5), .null, .null, .null, .int 0, .null, .int 0, .int 0, .int 0, .null, .int 0, .int 0, .null, .int 0, .int 0, .null, .null, .null])), (q1, .inl (cA 0, (21, .inl (fun _ => 0)))), (q2, .inl (cA 0, (9, .inl (fun _ => 0)))), (q3, .inl (cA 0, (9, .inl (fun _ => 0)))), (q4, .inl (cA 0, (2, .inl (fun _ => 0)))), (q5, .inl (cA 0, (12, .inl (fun _ => 0))))]) := hD
  refine lv_aload_n hx hb dX7_init_43 rfl (lv_at hl 0 rfl) ?_
  refine lv_bipush (v := 12) hx hb dX7_init_44 (by decide) ?_
  refine z_newI hx hb hts hK hP hD hS hA (N := 12) (by decide) (by decide) (Nat.le_of_ble_eq_true rfl) (Nat.le_of_ble_eq_true rfl) (Nat.le_of_ble_eq_true rfl) dX7_init_46 (fun q6 H hP hD hS => ?_)
  refine W.widen (k := 6) (n := 65) (Nat.le_of_ble_eq_true rfl) (Nat.le_of_ble_eq_true rfl) ?_
  have hP : va_P D classes ([(h0, .inr (7, [(.ref q1), (.ref q2), (.ref q3), (.ref q4), .int 0, (.ref q5), .null, .null, .null, .int 0, .null, .int 0, .int 0, .int 0, .null, .int 0, .int 0, .null, .int 0, .int 0, .null, .null, .null])), (q1, .inl (cA 0, (21, .inl (fun _ => 0)))), (q2, .inl (cA 0, (9, .inl (fun _ => 0)))), (q3, .inl (cA 0, (9, .inl (fun _ => 0)))), (q4, .inl (cA 0, (2, .inl (fun _ => 0)))), (q5, .inl (cA 0, (12, .inl (fun _ => 0)))), (q6, .inl (cA 0, (12, .inl (fun _ => 0))))]) H := hP
  have hD : va_D A ([(h0, .inr (7, [(.ref q1), (.ref q2), (.ref q3), (.ref q4), .int 0, (.ref q5), .null, .null, .null, .int 0, .null, .int 0, .int 0, .int 0, .null, .int 0, .int 0, .null, .int 0, .int 0, .null, .null, .null])), (q1, .inl (cA 0, (21, .inl (fun _ => 0)))), (q2, .inl (cA 0, (9, .inl (fun _ => 0)))), (q3, .inl (cA 0, (9, .inl (fun _ => 0)))), (q4, .inl (cA 0, (2, .inl (fun _ => 0)))), (q5, .inl (cA 0, (12, .inl (fun _ => 0)))), (q6, .inl (cA 0, (12, .inl (fun _ => 0))))]) := hD
  refine va_putF (D := D) (ci := 7) (v := (.ref q6)) (ty := (.array .int)) (C := RX7) (T := TX7) (N := 23) hx hb hts izX7 tyX7 tyX7_ok nmX7 hown hK hP hD hS 0 rfl rfl 6 (by decide) (hts (.fieldLink RX7 25 "FarthestPaysModel" "nightMany" "[I") (z_mem 726 (by decide +kernel) (by decide +kernel))) (fun _ h9 => h9) rfl hin rfl (by decide +kernel) rfl rfl (Nat.le_of_ble_eq_true rfl) dX7_init_48 (fun H locs hP hD hS => ?_)
  have hP : va_P D classes ([(h0, .inr (7, [(.ref q1), (.ref q2), (.ref q3), (.ref q4), .int 0, (.ref q5), (.ref q6), .null, .null, .int 0, .null, .int 0, .int 0, .int 0, .null, .int 0, .int 0, .null, .int 0, .int 0, .null, .null, .null])), (q1, .inl (cA 0, (21, .inl (fun _ => 0)))), (q2, .inl (cA 0, (9, .inl (fun _ => 0)))), (q3, .inl (cA 0, (9, .inl (fun _ => 0)))), (q4, .inl (cA 0, (2, .inl (fun _ => 0)))), (q5, .inl (cA 0, (12, .inl (fun _ => 0)))), (q6, .inl (cA 0, (12, .inl (fun _ => 0))))]) H := hP
  have hD : va_D A ([(h0, .inr (7, [(.ref q1), (.ref q2), (.ref q3), (.ref q4), .int 0, (.ref q5), (.ref q6), .null, .null, .int 0, .null, .int 0, .int 0, .int 0, .null, .int 0, .int 0, .null, .int 0, .int 0, .null, .null, .null])), (q1, .inl (cA 0, (21, .inl (fun _ => 0)))), (q2, .inl (cA 0, (9, .inl (fun _ => 0)))), (q3, .inl (cA 0, (9, .inl (fun _ => 0)))), (q4, .inl (cA 0, (2, .inl (fun _ => 0)))), (q5, .inl (cA 0, (12, .inl (fun _ => 0)))), (q6, .inl (cA 0, (12, .inl (fun _ => 0))))]) := hD
  refine lv_aload_n hx hb dX7_init_51 rfl (lv_at hl 0 rfl) ?_
  refine lv_bipush (v := 12) hx hb dX7_init_52 (by decide) ?_
  refine z_newI hx hb hts hK hP hD hS hA (N := 12) (by decide) (by decide) (Nat.le_of_ble_eq_true rfl) (Nat.le_of_ble_eq_true rfl) (Nat.le_of_ble_eq_true rfl) dX7_init_54 (fun q7 H hP hD hS => ?_)
  refine W.widen (k := 7) (n := 77) (Nat.le_of_ble_eq_true rfl) (Nat.le_of_ble_eq_true rfl) ?_
  have hP : va_P D classes ([(h0, .inr (7, [(.ref q1), (.ref q2), (.ref q3), (.ref q4), .int 0, (.ref q5), (.ref q6), .null, .null, .int 0, .null, .int 0, .int 0, .int 0, .null, .int 0, .int 0, .null, .int 0, .int 0, .null, .null, .null])), (q1, .inl (cA 0, (21, .inl (fun _ => 0)))), (q2, .inl (cA 0, (9, .inl (fun _ => 0)))), (q3, .inl (cA 0, (9, .inl (fun _ => 0)))), (q4, .inl (cA 0, (2, .inl (fun _ => 0)))), (q5, .inl (cA 0, (12, .inl (fun _ => 0)))), (q6, .inl (cA 0, (12, .inl (fun _ => 0)))), (q7, .inl (cA 0, (12, .inl (fun _ => 0))))]) H := hP
  have hD : va_D A ([(h0, .inr (7, [(.ref q1), (.ref q2), (.ref q3), (.ref q4), .int 0, (.ref q5), (.ref q6), .null, .null, .int 0, .null, .int 0, .int 0, .int 0, .null, .int 0, .int 0, .null, .int 0, .int 0, .null, .null, .null])), (q1, .inl (cA 0, (21, .inl (fun _ => 0)))), (q2, .inl (cA 0, (9, .inl (fun _ => 0)))), (q3, .inl (cA 0, (9, .inl (fun _ => 0)))), (q4, .inl (cA 0, (2, .inl (fun _ => 0)))), (q5, .inl (cA 0, (12, .inl (fun _ => 0)))), (q6, .inl (cA 0, (12, .inl (fun _ => 0)))), (q7, .inl (cA 0, (12, .inl (fun _ => 0))))]) := hD
  refine va_putF (D := D) (ci := 7) (v := (.ref q7)) (ty := (.array .int)) (C := RX7) (T := TX7) (N := 23) hx hb hts izX7 tyX7 tyX7_ok nmX7 hown hK hP hD hS 0 rfl rfl 7 (by decide) (hts (.fieldLink RX7 28 "FarthestPaysModel" "nightPaid" "[I") (z_mem 727 (by decide +kernel) (by decide +kernel))) (fun _ h9 => h9) rfl hin rfl (by decide +kernel) rfl rfl (Nat.le_of_ble_eq_true rfl) dX7_init_56 (fun H locs hP hD hS => ?_)
  have hP : va_P D classes ([(h0, .inr (7, [(.ref q1), (.ref q2), (.ref q3), (.ref q4), .int 0, (.ref q5), (.ref q6), (.ref q7), .null, .int 0, .null, .int 0, .int 0, .int 0, .null, .int 0, .int 0, .null, .int 0, .int 0, .null, .null, .null])), (q1, .inl (cA 0, (21, .inl (fun _ => 0)))), (q2, .inl (cA 0, (9, .inl (fun _ => 0)))), (q3, .inl (cA 0, (9, .inl (fun _ => 0)))), (q4, .inl (cA 0, (2, .inl (fun _ => 0)))), (q5, .inl (cA 0, (12, .inl (fun _ => 0)))), (q6, .inl (cA 0, (12, .inl (fun _ => 0)))), (q7, .inl (cA 0, (12, .inl (fun _ => 0))))]) H := hP
  have hD : va_D A ([(h0, .inr (7, [(.ref q1), (.ref q2), (.ref q3), (.ref q4), .int 0, (.ref q5), (.ref q6), (.ref q7), .null, .int 0, .null, .int 0, .int 0, .int 0, .null, .int 0, .int 0, .null, .int 0, .int 0, .null, .null, .null])), (q1, .inl (cA 0, (21, .inl (fun _ => 0)))), (q2, .inl (cA 0, (9, .inl (fun _ => 0)))), (q3, .inl (cA 0, (9, .inl (fun _ => 0)))), (q4, .inl (cA 0, (2, .inl (fun _ => 0)))), (q5, .inl (cA 0, (12, .inl (fun _ => 0)))), (q6, .inl (cA 0, (12, .inl (fun _ => 0)))), (q7, .inl (cA 0, (12, .inl (fun _ => 0))))]) := hD
  refine lv_aload_n hx hb dX7_init_59 rfl (lv_at hl 0 rfl) ?_
  refine lv_bipush (v := 108) hx hb dX7_init_60 (by decide) ?_
  refine z_newI hx hb hts hK hP hD hS hA (N := 108) (by decide) (by decide) (Nat.le_of_ble_eq_true rfl) (Nat.le_of_ble_eq_true rfl) (Nat.le_of_ble_eq_true rfl) dX7_init_62 (fun q8 H hP hD hS => ?_)
  refine W.widen (k := 8) (n := 185) (Nat.le_of_ble_eq_true rfl) (Nat.le_of_ble_eq_true rfl) ?_
  have hP : va_P D classes ([(h0, .inr (7, [(.ref q1), (.ref q2), (.ref q3), (.ref q4), .int 0, (.ref q5), (.ref q6), (.ref q7), .null, .int 0, .null, .int 0, .int 0, .int 0, .null, .int 0, .int 0, .null, .int 0, .int 0, .null, .null, .null])), (q1, .inl (cA 0, (21, .inl (fun _ => 0)))), (q2, .inl (cA 0, (9, .inl (fun _ => 0)))), (q3, .inl (cA 0, (9, .inl (fun _ => 0)))), (q4, .inl (cA 0, (2, .inl (fun _ => 0)))), (q5, .inl (cA 0, (12, .inl (fun _ => 0)))), (q6, .inl (cA 0, (12, .inl (fun _ => 0)))), (q7, .inl (cA 0, (12, .inl (fun _ => 0)))), (q8, .inl (cA 0, (108, .inl (fun _ => 0))))]) H := hP
  have hD : va_D A ([(h0, .inr (7, [(.ref q1), (.ref q2), (.ref q3), (.ref q4), .int 0, (.ref q5), (.ref q6), (.ref q7), .null, .int 0, .null, .int 0, .int 0, .int 0, .null, .int 0, .int 0, .null, .int 0, .int 0, .null, .null, .null])), (q1, .inl (cA 0, (21, .inl (fun _ => 0)))), (q2, .inl (cA 0, (9, .inl (fun _ => 0)))), (q3, .inl (cA 0, (9, .inl (fun _ => 0)))), (q4, .inl (cA 0, (2, .inl (fun _ => 0)))), (q5, .inl (cA 0, (12, .inl (fun _ => 0)))), (q6, .inl (cA 0, (12, .inl (fun _ => 0)))), (q7, .inl (cA 0, (12, .inl (fun _ => 0)))), (q8, .inl (cA 0, (108, .inl (fun _ => 0))))]) := hD
  refine va_putF (D := D) (ci := 7) (v := (.ref q8)) (ty := (.array .int)) (C := RX7) (T := TX7) (N := 23) hx hb hts izX7 tyX7 tyX7_ok nmX7 hown hK hP hD hS 0 rfl rfl 8 (by decide) (hts (.fieldLink RX7 31 "FarthestPaysModel" "nightSlips" "[I") (z_mem 728 (by decide +kernel) (by decide +kernel))) (fun _ h9 => h9) rfl hin rfl (by decide +kernel) rfl rfl (Nat.le_of_ble_eq_true rfl) dX7_init_64 (fun H locs hP hD hS => ?_)
  have hP : va_P D classes ([(h0, .inr (7, [(.ref q1), (.ref q2), (.ref q3), (.ref q4), .int 0, (.ref q5), (.ref q6), (.ref q7), (.ref q8), .int 0, .null, .int 0, .int 0, .int 0, .null, .int 0, .int 0, .null, .int 0, .int 0, .null, .null, .null])), (q1, .inl (cA 0, (21, .inl (fun _ => 0)))), (q2, .inl (cA 0, (9, .inl (fun _ => 0)))), (q3, .inl (cA 0, (9, .inl (fun _ => 0)))), (q4, .inl (cA 0, (2, .inl (fun _ => 0)))), (q5, .inl (cA 0, (12, .inl (fun _ => 0)))), (q6, .inl (cA 0, (12, .inl (fun _ => 0)))), (q7, .inl (cA 0, (12, .inl (fun _ => 0)))), (q8, .inl (cA 0, (108, .inl (fun _ => 0))))]) H := hP
  have hD : va_D A ([(h0, .inr (7, [(.ref q1), (.ref q2), (.ref q3), (.ref q4), .int 0, (.ref q5), (.ref q6), (.ref q7), (.ref q8), .int 0, .null, .int 0, .int 0, .int 0, .null, .int 0, .int 0, .null, .int 0, .int 0, .null, .null, .null])), (q1, .inl (cA 0, (21, .inl (fun _ => 0)))), (q2, .inl (cA 0, (9, .inl (fun _ => 0)))), (q3, .inl (cA 0, (9, .inl (fun _ => 0)))), (q4, .inl (cA 0, (2, .inl (fun _ => 0)))), (q5, .inl (cA 0, (12, .inl (fun _ => 0)))), (q6, .inl (cA 0, (12, .inl (fun _ => 0)))), (q7, .inl (cA 0, (12, .inl (fun _ => 0)))), (q8, .inl (cA 0, (108, .inl (fun _ => 0))))]) := hD
  refine lv_aload_n hx hb dX7_init_67 rfl (lv_at hl 0 rfl) ?_
  refine lv_bipush (v := 80) hx hb dX7_init_68 (by decide) ?_
  refine z_newI hx hb hts hK hP hD hS hA (N := 80) (by decide) (by decide) (Nat.le_of_ble_eq_true rfl) (Nat.le_of_ble_eq_true rfl) (Nat.le_of_ble_eq_true rfl) dX7_init_70 (fun q9 H hP hD hS => ?_)
  refine W.widen (k := 9) (n := 265) (Nat.le_of_ble_eq_true rfl) (Nat.le_of_ble_eq_true rfl) ?_
  have hP : va_P D classes ([(h0, .inr (7, [(.ref q1), (.ref q2), (.ref q3), (.ref q4), .int 0, (.ref q5), (.ref q6), (.ref q7), (.ref q8), .int 0, .null, .int 0, .int 0, .int 0, .null, .int 0, .int 0, .null, .int 0, .int 0, .null, .null, .null])), (q1, .inl (cA 0, (21, .inl (fun _ => 0)))), (q2, .inl (cA 0, (9, .inl (fun _ => 0)))), (q3, .inl (cA 0, (9, .inl (fun _ => 0)))), (q4, .inl (cA 0, (2, .inl (fun _ => 0)))), (q5, .inl (cA 0, (12, .inl (fun _ => 0)))), (q6, .inl (cA 0, (12, .inl (fun _ => 0)))), (q7, .inl (cA 0, (12, .inl (fun _ => 0)))), (q8, .inl (cA 0, (108, .inl (fun _ => 0)))), (q9, .inl (cA 0, (80, .inl (fun _ => 0))))]) H := hP
  have hD : va_D A ([(h0, .inr (7, [(.ref q1), (.ref q2), (.ref q3), (.ref q4), .int 0, (.ref q5), (.ref q6), (.ref q7), (.ref q8), .int 0, .null, .int 0, .int 0, .int 0, .null, .int 0, .int 0, .null, .int 0, .int 0, .null, .null, .null])), (q1, .inl (cA 0, (21, .inl (fun _ => 0)))), (q2, .inl (cA 0, (9, .inl (fun _ => 0)))), (q3, .inl (cA 0, (9, .inl (fun _ => 0)))), (q4, .inl (cA 0, (2, .inl (fun _ => 0)))), (q5, .inl (cA 0, (12, .inl (fun _ => 0)))), (q6, .inl (cA 0, (12, .inl (fun _ => 0)))), (q7, .inl (cA 0, (12, .inl (fun _ => 0)))), (q8, .inl (cA 0, (108, .inl (fun _ => 0)))), (q9, .inl (cA 0, (80, .inl (fun _ => 0))))]) := hD
  refine va_putF (D := D) (ci := 7) (v := (.ref q9)) (ty := (.array .int)) (C := RX7) (T := TX7) (N := 23) hx hb hts izX7 tyX7 tyX7_ok nmX7 hown hK hP hD hS 0 rfl rfl 10 (by decide) (hts (.fieldLink RX7 34 "FarthestPaysModel" "tape" "[I") (z_mem 730 (by decide +kernel) (by decide +kernel))) (fun _ h9 => h9) rfl hin rfl (by decide +kernel) rfl rfl (Nat.le_of_ble_eq_true rfl) dX7_init_72 (fun H locs hP hD hS => ?_)
  have hP : va_P D classes ([(h0, .inr (7, [(.ref q1), (.ref q2), (.ref q3), (.ref q4), .int 0, (.ref q5), (.ref q6), (.ref q7), (.ref q8), .int 0, (.ref q9), .int 0, .int 0, .int 0, .null, .int 0, .int 0, .null, .int 0, .int 0, .null, .null, .null])), (q1, .inl (cA 0, (21, .inl (fun _ => 0)))), (q2, .inl (cA 0, (9, .inl (fun _ => 0)))), (q3, .inl (cA 0, (9, .inl (fun _ => 0)))), (q4, .inl (cA 0, (2, .inl (fun _ => 0)))), (q5, .inl (cA 0, (12, .inl (fun _ => 0)))), (q6, .inl (cA 0, (12, .inl (fun _ => 0)))), (q7, .inl (cA 0, (12, .inl (fun _ => 0)))), (q8, .inl (cA 0, (108, .inl (fun _ => 0)))), (q9, .inl (cA 0, (80, .inl (fun _ => 0))))]) H := hP
  have hD : va_D A ([(h0, .inr (7, [(.ref q1), (.ref q2), (.ref q3), (.ref q4), .int 0, (.ref q5), (.ref q6), (.ref q7), (.ref q8), .int 0, (.ref q9), .int 0, .int 0, .int 0, .null, .int 0, .int 0, .null, .int 0, .int 0, .null, .null, .null])), (q1, .inl (cA 0, (21, .inl (fun _ => 0)))), (q2, .inl (cA 0, (9, .inl (fun _ => 0)))), (q3, .inl (cA 0, (9, .inl (fun _ => 0)))), (q4, .inl (cA 0, (2, .inl (fun _ => 0)))), (q5, .inl (cA 0, (12, .inl (fun _ => 0)))), (q6, .inl (cA 0, (12, .inl (fun _ => 0)))), (q7, .inl (cA 0, (12, .inl (fun _ => 0)))), (q8, .inl (cA 0, (108, .inl (fun _ => 0)))), (q9, .inl (cA 0, (80, .inl (fun _ => 0))))]) := hD
  refine lv_aload_n hx hb dX7_init_75 rfl (lv_at hl 0 rfl) ?_
  refine lv_bipush (v := 21) hx hb dX7_init_76 (by decide) ?_
  refine z_newI hx hb hts hK hP hD hS hA (N := 21) (by decide) (by decide) (Nat.le_of_ble_eq_true rfl) (Nat.le_of_ble_eq_true rfl) (Nat.le_of_ble_eq_true rfl) dX7_init_78 (fun q10 H hP hD hS => ?_)
  refine W.widen (k := 10) (n := 286) (Nat.le_of_ble_eq_true rfl) (Nat.le_of_ble_eq_true rfl) ?_
  have hP : va_P D classes ([(h0, .inr (7, [(.ref q1), (.ref q2), (.ref q3), (.ref q4), .int 0, (.ref q5), (.ref q6), (.ref q7), (.ref q8), .int 0, (.ref q9), .int 0, .int 0, .int 0, .null, .int 0, .int 0, .null, .int 0, .int 0, .null, .null, .null])), (q1, .inl (cA 0, (21, .inl (fun _ => 0)))), (q2, .inl (cA 0, (9, .inl (fun _ => 0)))), (q3, .inl (cA 0, (9, .inl (fun _ => 0)))), (q4, .inl (cA 0, (2, .inl (fun _ => 0)))), (q5, .inl (cA 0, (12, .inl (fun _ => 0)))), (q6, .inl (cA 0, (12, .inl (fun _ => 0)))), (q7, .inl (cA 0, (12, .inl (fun _ => 0)))), (q8, .inl (cA 0, (108, .inl (fun _ => 0)))), (q9, .inl (cA 0, (80, .inl (fun _ => 0)))), (q10, .inl (cA 0, (21, .inl (fun _ => 0))))]) H := hP
  have hD : va_D A ([(h0, .inr (7, [(.ref q1), (.ref q2), (.ref q3), (.ref q4), .int 0, (.ref q5), (.ref q6), (.ref q7), (.ref q8), .int 0, (.ref q9), .int 0, .int 0, .int 0, .null, .int 0, .int 0, .null, .int 0, .int 0, .null, .null, .null])), (q1, .inl (cA 0, (21, .inl (fun _ => 0)))), (q2, .inl (cA 0, (9, .inl (fun _ => 0)))), (q3, .inl (cA 0, (9, .inl (fun _ => 0)))), (q4, .inl (cA 0, (2, .inl (fun _ => 0)))), (q5, .inl (cA 0, (12, .inl (fun _ => 0)))), (q6, .inl (cA 0, (12, .inl (fun _ => 0)))), (q7, .inl (cA 0, (12, .inl (fun _ => 0)))), (q8, .inl (cA 0, (108, .inl (fun _ => 0)))), (q9, .inl (cA 0, (80, .inl (fun _ => 0)))), (q10, .inl (cA 0, (21, .inl (fun _ => 0))))]) := hD
  refine va_putF (D := D) (ci := 7) (v := (.ref q10)) (ty := (.array .int)) (C := RX7) (T := TX7) (N := 23) hx hb hts izX7 tyX7 tyX7_ok nmX7 hown hK hP hD hS 0 rfl rfl 14 (by decide) (hts (.fieldLink RX7 37 "FarthestPaysModel" "read" "[I") (z_mem 734 (by decide +kernel) (by decide +kernel))) (fun _ h9 => h9) rfl hin rfl (by decide +kernel) rfl rfl (Nat.le_of_ble_eq_true rfl) dX7_init_80 (fun H locs hP hD hS => ?_)
  have hP : va_P D classes ([(h0, .inr (7, [(.ref q1), (.ref q2), (.ref q3), (.ref q4), .int 0, (.ref q5), (.ref q6), (.ref q7), (.ref q8), .int 0, (.ref q9), .int 0, .int 0, .int 0, (.ref q10), .int 0, .int 0, .null, .int 0, .int 0, .null, .null, .null])), (q1, .inl (cA 0, (21, .inl (fun _ => 0)))), (q2, .inl (cA 0, (9, .inl (fun _ => 0)))), (q3, .inl (cA 0, (9, .inl (fun _ => 0)))), (q4, .inl (cA 0, (2, .inl (fun _ => 0)))), (q5, .inl (cA 0, (12, .inl (fun _ => 0)))), (q6, .inl (cA 0, (12, .inl (fun _ => 0)))), (q7, .inl (cA 0, (12, .inl (fun _ => 0)))), (q8, .inl (cA 0, (108, .inl (fun _ => 0)))), (q9, .inl (cA 0, (80, .inl (fun _ => 0)))), (q10, .inl (cA 0, (21, .inl (fun _ => 0))))]) H := hP
  have hD : va_D A ([(h0, .inr (7, [(.ref q1), (.ref q2), (.ref q3), (.ref q4), .int 0, (.ref q5), (.ref q6), (.ref q7), (.ref q8), .int 0, (.ref q9), .int 0, .int 0, .int 0, (.ref q10), .int 0, .int 0, .null, .int 0, .int 0, .null, .null, .null])), (q1, .inl (cA 0, (21, .inl (fun _ => 0)))), (q2, .inl (cA 0, (9, .inl (fun _ => 0)))), (q3, .inl (cA 0, (9, .inl (fun _ => 0)))), (q4, .inl (cA 0, (2, .inl (fun _ => 0)))), (q5, .inl (cA 0, (12, .inl (fun _ => 0)))), (q6, .inl (cA 0, (12, .inl (fun _ => 0)))), (q7, .inl (cA 0, (12, .inl (fun _ => 0)))), (q8, .inl (cA 0, (108, .inl (fun _ => 0)))), (q9, .inl (cA 0, (80, .inl (fun _ => 0)))), (q10, .inl (cA 0, (21, .inl (fun _ => 0))))]) := hD
  refine lv_aload_n hx hb dX7_init_83 rfl (lv_at hl 0 rfl) ?_
  refine lv_sipush (v := 185) hx hb dX7_init_84 (by decide) ?_
  refine z_newI hx hb hts hK hP hD hS hA (N := 185) (by decide) (by decide) (Nat.le_of_ble_eq_true rfl) (Nat.le_of_ble_eq_true rfl) (Nat.le_of_ble_eq_true rfl) dX7_init_87 (fun q11 H hP hD hS => ?_)
  refine W.widen (k := 11) (n := 471) (Nat.le_of_ble_eq_true rfl) (Nat.le_of_ble_eq_true rfl) ?_
  have hP : va_P D classes ([(h0, .inr (7, [(.ref q1), (.ref q2), (.ref q3), (.ref q4), .int 0, (.ref q5), (.ref q6), (.ref q7), (.ref q8), .int 0, (.ref q9), .int 0, .int 0, .int 0, (.ref q10), .int 0, .int 0, .null, .int 0, .int 0, .null, .null, .null])), (q1, .inl (cA 0, (21, .inl (fun _ => 0)))), (q2, .inl (cA 0, (9, .inl (fun _ => 0)))), (q3, .inl (cA 0, (9, .inl (fun _ => 0)))), (q4, .inl (cA 0, (2, .inl (fun _ => 0)))), (q5, .inl (cA 0, (12, .inl (fun _ => 0)))), (q6, .inl (cA 0, (12, .inl (fun _ => 0)))), (q7, .inl (cA 0, (12, .inl (fun _ => 0)))), (q8, .inl (cA 0, (108, .inl (fun _ => 0)))), (q9, .inl (cA 0, (80, .inl (fun _ => 0)))), (q10, .inl (cA 0, (21, .inl (fun _ => 0)))), (q11, .inl (cA 0, (185, .inl (fun _ => 0))))]) H := hP
  have hD : va_D A ([(h0, .inr (7, [(.ref q1), (.ref q2), (.ref q3), (.ref q4), .int 0, (.ref q5), (.ref q6), (.ref q7), (.ref q8), .int 0, (.ref q9), .int 0, .int 0, .int 0, (.ref q10), .int 0, .int 0, .null, .int 0, .int 0, .null, .null, .null])), (q1, .inl (cA 0, (21, .inl (fun _ => 0)))), (q2, .inl (cA 0, (9, .inl (fun _ => 0)))), (q3, .inl (cA 0, (9, .inl (fun _ => 0)))), (q4, .inl (cA 0, (2, .inl (fun _ => 0)))), (q5, .inl (cA 0, (12, .inl (fun _ => 0)))), (q6, .inl (cA 0, (12, .inl (fun _ => 0)))), (q7, .inl (cA 0, (12, .inl (fun _ => 0)))), (q8, .inl (cA 0, (108, .inl (fun _ => 0)))), (q9, .inl (cA 0, (80, .inl (fun _ => 0)))), (q10, .inl (cA 0, (21, .inl (fun _ => 0)))), (q11, .inl (cA 0, (185, .inl (fun _ => 0))))]) := hD
  refine va_putF (D := D) (ci := 7) (v := (.ref q11)) (ty := (.array .int)) (C := RX7) (T := TX7) (N := 23) hx hb hts izX7 tyX7 tyX7_ok nmX7 hown hK hP hD hS 0 rfl rfl 17 (by decide) (hts (.fieldLink RX7 40 "FarthestPaysModel" "kept" "[I") (z_mem 737 (by decide +kernel) (by decide +kernel))) (fun _ h9 => h9) rfl hin rfl (by decide +kernel) rfl rfl (Nat.le_of_ble_eq_true rfl) dX7_init_89 (fun H locs hP hD hS => ?_)
  have hP : va_P D classes ([(h0, .inr (7, [(.ref q1), (.ref q2), (.ref q3), (.ref q4), .int 0, (.ref q5), (.ref q6), (.ref q7), (.ref q8), .int 0, (.ref q9), .int 0, .int 0, .int 0, (.ref q10), .int 0, .int 0, (.ref q11), .int 0, .int 0, .null, .null, .null])), (q1, .inl (cA 0, (21, .inl (fun _ => 0)))), (q2, .inl (cA 0, (9, .inl (fun _ => 0)))), (q3, .inl (cA 0, (9, .inl (fun _ => 0)))), (q4, .inl (cA 0, (2, .inl (fun _ => 0)))), (q5, .inl (cA 0, (12, .inl (fun _ => 0)))), (q6, .inl (cA 0, (12, .inl (fun _ => 0)))), (q7, .inl (cA 0, (12, .inl (fun _ => 0)))), (q8, .inl (cA 0, (108, .inl (fun _ => 0)))), (q9, .inl (cA 0, (80, .inl (fun _ => 0)))), (q10, .inl (cA 0, (21, .inl (fun _ => 0)))), (q11, .inl (cA 0, (185, .inl (fun _ => 0))))]) H := hP
  have hD : va_D A ([(h0, .inr (7, [(.ref q1), (.ref q2), (.ref q3), (.ref q4), .int 0, (.ref q5), (.ref q6), (.ref q7), (.ref q8), .int 0, (.ref q9), .int 0, .int 0, .int 0, (.ref q10), .int 0, .int 0, (.ref q11), .int 0, .int 0, .null, .null, .null])), (q1, .inl (cA 0, (21, .inl (fun _ => 0)))), (q2, .inl (cA 0, (9, .inl (fun _ => 0)))), (q3, .inl (cA 0, (9, .inl (fun _ => 0)))), (q4, .inl (cA 0, (2, .inl (fun _ => 0)))), (q5, .inl (cA 0, (12, .inl (fun _ => 0)))), (q6, .inl (cA 0, (12, .inl (fun _ => 0)))), (q7, .inl (cA 0, (12, .inl (fun _ => 0)))), (q8, .inl (cA 0, (108, .inl (fun _ => 0)))), (q9, .inl (cA 0, (80, .inl (fun _ => 0)))), (q10, .inl (cA 0, (21, .inl (fun _ => 0)))), (q11, .inl (cA 0, (185, .inl (fun _ => 0))))]) := hD
  refine lv_aload_n hx hb dX7_init_92 rfl (lv_at hl 0 rfl) ?_
  refine lv_iconst (v := 4) hx hb dX7_init_93 (by decide) ?_
  refine z_newI hx hb hts hK hP hD hS hA (N := 4) (by decide) (by decide) (Nat.le_of_ble_eq_true rfl) (Nat.le_of_ble_eq_true rfl) (Nat.le_of_ble_eq_true rfl) dX7_init_94 (fun q12 H hP hD hS => ?_)
  refine W.widen (k := 12) (n := 475) (Nat.le_of_ble_eq_true rfl) (Nat.le_of_ble_eq_true rfl) ?_
  have hP : va_P D classes ([(h0, .inr (7, [(.ref q1), (.ref q2), (.ref q3), (.ref q4), .int 0, (.ref q5), (.ref q6), (.ref q7), (.ref q8), .int 0, (.ref q9), .int 0, .int 0, .int 0, (.ref q10), .int 0, .int 0, (.ref q11), .int 0, .int 0, .null, .null, .null])), (q1, .inl (cA 0, (21, .inl (fun _ => 0)))), (q2, .inl (cA 0, (9, .inl (fun _ => 0)))), (q3, .inl (cA 0, (9, .inl (fun _ => 0)))), (q4, .inl (cA 0, (2, .inl (fun _ => 0)))), (q5, .inl (cA 0, (12, .inl (fun _ => 0)))), (q6, .inl (cA 0, (12, .inl (fun _ => 0)))), (q7, .inl (cA 0, (12, .inl (fun _ => 0)))), (q8, .inl (cA 0, (108, .inl (fun _ => 0)))), (q9, .inl (cA 0, (80, .inl (fun _ => 0)))), (q10, .inl (cA 0, (21, .inl (fun _ => 0)))), (q11, .inl (cA 0, (185, .inl (fun _ => 0)))), (q12, .inl (cA 0, (4, .inl (fun _ => 0))))]) H := hP
  have hD : va_D A ([(h0, .inr (7, [(.ref q1), (.ref q2), (.ref q3), (.ref q4), .int 0, (.ref q5), (.ref q6), (.ref q7), (.ref q8), .int 0, (.ref q9), .int 0, .int 0, .int 0, (.ref q10), .int 0, .int 0, (.ref q11), .int 0, .int 0, .null, .null, .null])), (q1, .inl (cA 0, (21, .inl (fun _ => 0)))), (q2, .inl (cA 0, (9, .inl (fun _ => 0)))), (q3, .inl (cA 0, (9, .inl (fun _ => 0)))), (q4, .inl (cA 0, (2, .inl (fun _ => 0)))), (q5, .inl (cA 0, (12, .inl (fun _ => 0)))), (q6, .inl (cA 0, (12, .inl (fun _ => 0)))), (q7, .inl (cA 0, (12, .inl (fun _ => 0)))), (q8, .inl (cA 0, (108, .inl (fun _ => 0)))), (q9, .inl (cA 0, (80, .inl (fun _ => 0)))), (q10, .inl (cA 0, (21, .inl (fun _ => 0)))), (q11, .inl (cA 0, (185, .inl (fun _ => 0)))), (q12, .inl (cA 0, (4, .inl (fun _ => 0))))]) := hD
  refine va_putF (D := D) (ci := 7) (v := (.ref q12)) (ty := (.array .int)) (C := RX7) (T := TX7) (N := 23) hx hb hts izX7 tyX7 tyX7_ok nmX7 hown hK hP hD hS 0 rfl rfl 20 (by decide) (hts (.fieldLink RX7 43 "FarthestPaysModel" "lanes" "[I") (z_mem 740 (by decide +kernel) (by decide +kernel))) (fun _ h9 => h9) rfl hin rfl (by decide +kernel) rfl rfl (Nat.le_of_ble_eq_true rfl) dX7_init_96 (fun H locs hP hD hS => ?_)
  have hP : va_P D classes ([(h0, .inr (7, [(.ref q1), (.ref q2), (.ref q3), (.ref q4), .int 0, (.ref q5), (.ref q6), (.ref q7), (.ref q8), .int 0, (.ref q9), .int 0, .int 0, .int 0, (.ref q10), .int 0, .int 0, (.ref q11), .int 0, .int 0, (.ref q12), .null, .null])), (q1, .inl (cA 0, (21, .inl (fun _ => 0)))), (q2, .inl (cA 0, (9, .inl (fun _ => 0)))), (q3, .inl (cA 0, (9, .inl (fun _ => 0)))), (q4, .inl (cA 0, (2, .inl (fun _ => 0)))), (q5, .inl (cA 0, (12, .inl (fun _ => 0)))), (q6, .inl (cA 0, (12, .inl (fun _ => 0)))), (q7, .inl (cA 0, (12, .inl (fun _ => 0)))), (q8, .inl (cA 0, (108, .inl (fun _ => 0)))), (q9, .inl (cA 0, (80, .inl (fun _ => 0)))), (q10, .inl (cA 0, (21, .inl (fun _ => 0)))), (q11, .inl (cA 0, (185, .inl (fun _ => 0)))), (q12, .inl (cA 0, (4, .inl (fun _ => 0))))]) H := hP
  have hD : va_D A ([(h0, .inr (7, [(.ref q1), (.ref q2), (.ref q3), (.ref q4), .int 0, (.ref q5), (.ref q6), (.ref q7), (.ref q8), .int 0, (.ref q9), .int 0, .int 0, .int 0, (.ref q10), .int 0, .int 0, (.ref q11), .int 0, .int 0, (.ref q12), .null, .null])), (q1, .inl (cA 0, (21, .inl (fun _ => 0)))), (q2, .inl (cA 0, (9, .inl (fun _ => 0)))), (q3, .inl (cA 0, (9, .inl (fun _ => 0)))), (q4, .inl (cA 0, (2, .inl (fun _ => 0)))), (q5, .inl (cA 0, (12, .inl (fun _ => 0)))), (q6, .inl (cA 0, (12, .inl (fun _ => 0)))), (q7, .inl (cA 0, (12, .inl (fun _ => 0)))), (q8, .inl (cA 0, (108, .inl (fun _ => 0)))), (q9, .inl (cA 0, (80, .inl (fun _ => 0)))), (q10, .inl (cA 0, (21, .inl (fun _ => 0)))), (q11, .inl (cA 0, (185, .inl (fun _ => 0)))), (q12, .inl (cA 0, (4, .inl (fun _ => 0))))]) := hD
  refine lv_aload_n hx hb dX7_init_99 rfl (lv_at hl 0 rfl) ?_
  refine lv_iconst (v := 4) hx hb dX7_init_100 (by decide) ?_
  refine z_newI hx hb hts hK hP hD hS hA (N := 4) (by decide) (by decide) (Nat.le_of_ble_eq_true rfl) (Nat.le_of_ble_eq_true rfl) (Nat.le_of_ble_eq_true rfl) dX7_init_101 (fun q13 H hP hD hS => ?_)
  refine W.widen (k := 13) (n := 479) (Nat.le_of_ble_eq_true rfl) (Nat.le_of_ble_eq_true rfl) ?_
  have hP : va_P D classes ([(h0, .inr (7, [(.ref q1), (.ref q2), (.ref q3), (.ref q4), .int 0, (.ref q5), (.ref q6), (.ref q7), (.ref q8), .int 0, (.ref q9), .int 0, .int 0, .int 0, (.ref q10), .int 0, .int 0, (.ref q11), .int 0, .int 0, (.ref q12), .null, .null])), (q1, .inl (cA 0, (21, .inl (fun _ => 0)))), (q2, .inl (cA 0, (9, .inl (fun _ => 0)))), (q3, .inl (cA 0, (9, .inl (fun _ => 0)))), (q4, .inl (cA 0, (2, .inl (fun _ => 0)))), (q5, .inl (cA 0, (12, .inl (fun _ => 0)))), (q6, .inl (cA 0, (12, .inl (fun _ => 0)))), (q7, .inl (cA 0, (12, .inl (fun _ => 0)))), (q8, .inl (cA 0, (108, .inl (fun _ => 0)))), (q9, .inl (cA 0, (80, .inl (fun _ => 0)))), (q10, .inl (cA 0, (21, .inl (fun _ => 0)))), (q11, .inl (cA 0, (185, .inl (fun _ => 0)))), (q12, .inl (cA 0, (4, .inl (fun _ => 0)))), (q13, .inl (cA 0, (4, .inl (fun _ => 0))))]) H := hP
  have hD : va_D A ([(h0, .inr (7, [(.ref q1), (.ref q2), (.ref q3), (.ref q4), .int 0, (.ref q5), (.ref q6), (.ref q7), (.ref q8), .int 0, (.ref q9), .int 0, .int 0, .int 0, (.ref q10), .int 0, .int 0, (.ref q11), .int 0, .int 0, (.ref q12), .null, .null])), (q1, .inl (cA 0, (21, .inl (fun _ => 0)))), (q2, .inl (cA 0, (9, .inl (fun _ => 0)))), (q3, .inl (cA 0, (9, .inl (fun _ => 0)))), (q4, .inl (cA 0, (2, .inl (fun _ => 0)))), (q5, .inl (cA 0, (12, .inl (fun _ => 0)))), (q6, .inl (cA 0, (12, .inl (fun _ => 0)))), (q7, .inl (cA 0, (12, .inl (fun _ => 0)))), (q8, .inl (cA 0, (108, .inl (fun _ => 0)))), (q9, .inl (cA 0, (80, .inl (fun _ => 0)))), (q10, .inl (cA 0, (21, .inl (fun _ => 0)))), (q11, .inl (cA 0, (185, .inl (fun _ => 0)))), (q12, .inl (cA 0, (4, .inl (fun _ => 0)))), (q13, .inl (cA 0, (4, .inl (fun _ => 0))))]) := hD
  refine va_putF (D := D) (ci := 7) (v := (.ref q13)) (ty := (.array .int)) (C := RX7) (T := TX7) (N := 23) hx hb hts izX7 tyX7 tyX7_ok nmX7 hown hK hP hD hS 0 rfl rfl 21 (by decide) (hts (.fieldLink RX7 46 "FarthestPaysModel" "rowSizes" "[I") (z_mem 741 (by decide +kernel) (by decide +kernel))) (fun _ h9 => h9) rfl hin rfl (by decide +kernel) rfl rfl (Nat.le_of_ble_eq_true rfl) dX7_init_103 (fun H locs hP hD hS => ?_)
  have hP : va_P D classes ([(h0, .inr (7, [(.ref q1), (.ref q2), (.ref q3), (.ref q4), .int 0, (.ref q5), (.ref q6), (.ref q7), (.ref q8), .int 0, (.ref q9), .int 0, .int 0, .int 0, (.ref q10), .int 0, .int 0, (.ref q11), .int 0, .int 0, (.ref q12), (.ref q13), .null])), (q1, .inl (cA 0, (21, .inl (fun _ => 0)))), (q2, .inl (cA 0, (9, .inl (fun _ => 0)))), (q3, .inl (cA 0, (9, .inl (fun _ => 0)))), (q4, .inl (cA 0, (2, .inl (fun _ => 0)))), (q5, .inl (cA 0, (12, .inl (fun _ => 0)))), (q6, .inl (cA 0, (12, .inl (fun _ => 0)))), (q7, .inl (cA 0, (12, .inl (fun _ => 0)))), (q8, .inl (cA 0, (108, .inl (fun _ => 0)))), (q9, .inl (cA 0, (80, .inl (fun _ => 0)))), (q10, .inl (cA 0, (21, .inl (fun _ => 0)))), (q11, .inl (cA 0, (185, .inl (fun _ => 0)))), (q12, .inl (cA 0, (4, .inl (fun _ => 0)))), (q13, .inl (cA 0, (4, .inl (fun _ => 0))))]) H := hP
  have hD : va_D A ([(h0, .inr (7, [(.ref q1), (.ref q2), (.ref q3), (.ref q4), .int 0, (.ref q5), (.ref q6), (.ref q7), (.ref q8), .int 0, (.ref q9), .int 0, .int 0, .int 0, (.ref q10), .int 0, .int 0, (.ref q11), .int 0, .int 0, (.ref q12), (.ref q13), .null])), (q1, .inl (cA 0, (21, .inl (fun _ => 0)))), (q2, .inl (cA 0, (9, .inl (fun _ => 0)))), (q3, .inl (cA 0, (9, .inl (fun _ => 0)))), (q4, .inl (cA 0, (2, .inl (fun _ => 0)))), (q5, .inl (cA 0, (12, .inl (fun _ => 0)))), (q6, .inl (cA 0, (12, .inl (fun _ => 0)))), (q7, .inl (cA 0, (12, .inl (fun _ => 0)))), (q8, .inl (cA 0, (108, .inl (fun _ => 0)))), (q9, .inl (cA 0, (80, .inl (fun _ => 0)))), (q10, .inl (cA 0, (21, .inl (fun _ => 0)))), (q11, .inl (cA 0, (185, .inl (fun _ => 0)))), (q12, .inl (cA 0, (4, .inl (fun _ => 0)))), (q13, .inl (cA 0, (4, .inl (fun _ => 0))))]) := hD
  refine lv_aload_n hx hb dX7_init_106 rfl (lv_at hl 0 rfl) ?_
  refine lv_bipush (v := 96) hx hb dX7_init_107 (by decide) ?_
  refine z_newJ hx hb hts hK hP hD hS hA (N := 96) (by decide) (by decide) (Nat.le_of_ble_eq_true rfl) (Nat.le_of_ble_eq_true rfl) (Nat.le_of_ble_eq_true rfl) dX7_init_109 (fun q14 H hP hD hS => ?_)
  refine W.widen (k := 14) (n := 575) (Nat.le_of_ble_eq_true rfl) (Nat.le_of_ble_eq_true rfl) ?_
  have hP : va_P D classes ([(h0, .inr (7, [(.ref q1), (.ref q2), (.ref q3), (.ref q4), .int 0, (.ref q5), (.ref q6), (.ref q7), (.ref q8), .int 0, (.ref q9), .int 0, .int 0, .int 0, (.ref q10), .int 0, .int 0, (.ref q11), .int 0, .int 0, (.ref q12), (.ref q13), .null])), (q1, .inl (cA 0, (21, .inl (fun _ => 0)))), (q2, .inl (cA 0, (9, .inl (fun _ => 0)))), (q3, .inl (cA 0, (9, .inl (fun _ => 0)))), (q4, .inl (cA 0, (2, .inl (fun _ => 0)))), (q5, .inl (cA 0, (12, .inl (fun _ => 0)))), (q6, .inl (cA 0, (12, .inl (fun _ => 0)))), (q7, .inl (cA 0, (12, .inl (fun _ => 0)))), (q8, .inl (cA 0, (108, .inl (fun _ => 0)))), (q9, .inl (cA 0, (80, .inl (fun _ => 0)))), (q10, .inl (cA 0, (21, .inl (fun _ => 0)))), (q11, .inl (cA 0, (185, .inl (fun _ => 0)))), (q12, .inl (cA 0, (4, .inl (fun _ => 0)))), (q13, .inl (cA 0, (4, .inl (fun _ => 0)))), (q14, .inl (cA 1, (96, .inr (.inl (fun _ => 0)))))]) H := hP
  have hD : va_D A ([(h0, .inr (7, [(.ref q1), (.ref q2), (.ref q3), (.ref q4), .int 0, (.ref q5), (.ref q6), (.ref q7), (.ref q8), .int 0, (.ref q9), .int 0, .int 0, .int 0, (.ref q10), .int 0, .int 0, (.ref q11), .int 0, .int 0, (.ref q12), (.ref q13), .null])), (q1, .inl (cA 0, (21, .inl (fun _ => 0)))), (q2, .inl (cA 0, (9, .inl (fun _ => 0)))), (q3, .inl (cA 0, (9, .inl (fun _ => 0)))), (q4, .inl (cA 0, (2, .inl (fun _ => 0)))), (q5, .inl (cA 0, (12, .inl (fun _ => 0)))), (q6, .inl (cA 0, (12, .inl (fun _ => 0)))), (q7, .inl (cA 0, (12, .inl (fun _ => 0)))), (q8, .inl (cA 0, (108, .inl (fun _ => 0)))), (q9, .inl (cA 0, (80, .inl (fun _ => 0)))), (q10, .inl (cA 0, (21, .inl (fun _ => 0)))), (q11, .inl (cA 0, (185, .inl (fun _ => 0)))), (q12, .inl (cA 0, (4, .inl (fun _ => 0)))), (q13, .inl (cA 0, (4, .inl (fun _ => 0)))), (q14, .inl (cA 1, (96, .inr (.inl (fun _ => 0)))))]) := hD
  refine va_putF (D := D) (ci := 7) (v := (.ref q14)) (ty := (.array .long)) (C := RX7) (T := TX7) (N := 23) hx hb hts izX7 tyX7 tyX7_ok nmX7 hown hK hP hD hS 0 rfl rfl 22 (by decide) (hts (.fieldLink RX7 49 "FarthestPaysModel" "items" "[J") (z_mem 742 (by decide +kernel) (by decide +kernel))) (fun _ h9 => h9) rfl hin rfl (by decide +kernel) rfl rfl (Nat.le_of_ble_eq_true rfl) dX7_init_111 (fun H locs hP hD hS => ?_)
  have hP : va_P D classes ([(h0, .inr (7, [(.ref q1), (.ref q2), (.ref q3), (.ref q4), .int 0, (.ref q5), (.ref q6), (.ref q7), (.ref q8), .int 0, (.ref q9), .int 0, .int 0, .int 0, (.ref q10), .int 0, .int 0, (.ref q11), .int 0, .int 0, (.ref q12), (.ref q13), (.ref q14)])), (q1, .inl (cA 0, (21, .inl (fun _ => 0)))), (q2, .inl (cA 0, (9, .inl (fun _ => 0)))), (q3, .inl (cA 0, (9, .inl (fun _ => 0)))), (q4, .inl (cA 0, (2, .inl (fun _ => 0)))), (q5, .inl (cA 0, (12, .inl (fun _ => 0)))), (q6, .inl (cA 0, (12, .inl (fun _ => 0)))), (q7, .inl (cA 0, (12, .inl (fun _ => 0)))), (q8, .inl (cA 0, (108, .inl (fun _ => 0)))), (q9, .inl (cA 0, (80, .inl (fun _ => 0)))), (q10, .inl (cA 0, (21, .inl (fun _ => 0)))), (q11, .inl (cA 0, (185, .inl (fun _ => 0)))), (q12, .inl (cA 0, (4, .inl (fun _ => 0)))), (q13, .inl (cA 0, (4, .inl (fun _ => 0)))), (q14, .inl (cA 1, (96, .inr (.inl (fun _ => 0)))))]) H := hP
  have hD : va_D A ([(h0, .inr (7, [(.ref q1), (.ref q2), (.ref q3), (.ref q4), .int 0, (.ref q5), (.ref q6), (.ref q7), (.ref q8), .int 0, (.ref q9), .int 0, .int 0, .int 0, (.ref q10), .int 0, .int 0, (.ref q11), .int 0, .int 0, (.ref q12), (.ref q13), (.ref q14)])), (q1, .inl (cA 0, (21, .inl (fun _ => 0)))), (q2, .inl (cA 0, (9, .inl (fun _ => 0)))), (q3, .inl (cA 0, (9, .inl (fun _ => 0)))), (q4, .inl (cA 0, (2, .inl (fun _ => 0)))), (q5, .inl (cA 0, (12, .inl (fun _ => 0)))), (q6, .inl (cA 0, (12, .inl (fun _ => 0)))), (q7, .inl (cA 0, (12, .inl (fun _ => 0)))), (q8, .inl (cA 0, (108, .inl (fun _ => 0)))), (q9, .inl (cA 0, (80, .inl (fun _ => 0)))), (q10, .inl (cA 0, (21, .inl (fun _ => 0)))), (q11, .inl (cA 0, (185, .inl (fun _ => 0)))), (q12, .inl (cA 0, (4, .inl (fun _ => 0)))), (q13, .inl (cA 0, (4, .inl (fun _ => 0)))), (q14, .inl (cA 1, (96, .inr (.inl (fun _ => 0)))))]) := hD
  obtain ⟨ad, had⟩ : ∃ f, f = (fun k => match k with | 0 => h0 | 1 => q1 | 2 => q2 | 3 => q3 | 4 => q4 | 5 => q5 | 6 => q6 | 7 => q7 | 8 => q8 | 9 => q9 | 10 => q10 | 11 => q11 | 12 => q12 | 13 => q13 | _ => q14) := ⟨_, rfl⟩
  have hP9 : va_P D classes (z_wr ad cA 0 (wMo (fun _ => 0) (fun _ => 0) (fun _ => 0) 0 (fun _ => 0) (fun _ => 0) (fun _ => 0) (fun _ => 0) (fun _ => 0) 0 (fun _ => 0) 0 0 0 (fun _ => 0) 0 0 (fun _ => 0) 0 0 (fun _ => 0) (fun _ => 0) (fun _ => 0))) H := by rw [had]; exact hP
  have hD9 : va_D A (z_wr ad cA 0 (wMo (fun _ => 0) (fun _ => 0) (fun _ => 0) 0 (fun _ => 0) (fun _ => 0) (fun _ => 0) (fun _ => 0) (fun _ => 0) 0 (fun _ => 0) 0 0 0 (fun _ => 0) 0 0 (fun _ => 0) 0 0 (fun _ => 0) (fun _ => 0) (fun _ => 0))) := by rw [had]; exact hD
  have e0 : ad 0 = h0 := by rw [had]; rfl
  have hl9 : lv_has ls 2 (z_l ad [(0, .inr (.inr 0))]) := by
    show lv_has ls 2 [(0, .ref (ad 0))]
    rw [e0]; exact hl
  obtain ⟨hi1, hi2⟩ := zInj (D := 15) rfl hD9
  have X : z_X p s m ([.ref h0] : List Value).toArray c cX7_init RX7 D cA ad A 15 2 none := ⟨hx, hb, hml, hown, hts, hK, hN, hi1, hi2, hA, trivial⟩
  have hRR : z_RR cX7_init (fun v wd => v = none ∧ wd = wMo (fun _ => 0) (fun _ => 0) (fun _ => 0) 0 (fun _ => 0) (fun _ => 0) (fun _ => 0) (fun _ => 0) (fun _ => 0) 0 (fun _ => 0) 0 0 0 (fun _ => 0) 0 0 (fun _ => 0) 0 0 (z_u (z_u (z_u (z_u (fun _ => 0) 0 (-1)) 1 (-1)) 2 (-1)) 3 (-1)) (fun _ => 0) (fun _ => 0)) (z_G p l e (headSpec (Cond.code yX7_init cX7_init 2 none :: z_tbl) ({ frames := 1, cells := 14, slots := 575, locals := 12 } : Room)).room s m ([.ref h0] : List Value).toArray below meth c 14 575 (MQ below (va_Qv (fun _ : Nat → Nat => True) (zIPost D cA h0 A (wMo (fun _ => 0) (fun _ => 0) (fun _ => 0) 0 (fun _ => 0) (fun _ => 0) (fun _ => 0) (fun _ => 0) (fun _ => 0) 0 (fun _ => 0) 0 0 0 (fun _ => 0) 0 0 (fun _ => 0) 0 0 (z_u (z_u (z_u (z_u (fun _ => 0) 0 (-1)) 1 (-1)) 2 (-1)) 3 (-1)) (fun _ => 0) (fun _ => 0))) A) ([.ref h0] : List Value).toArray s 14 575 A) D cA ad A 15 2) := by
    refine ⟨(fun pc ls x ws hd h => by cases h.1), (fun pc ls x ws hd h => by cases h.1), fun pc ls ws hd h hlen H locs ls' hP hS hl => ?_⟩
    obtain ⟨_, rfl⟩ := h
    rw [z_w_wr] at hP
    have hD8 : va_D A (z_wr ad cA 0 (wMo (fun _ => 0) (fun _ => 0) (fun _ => 0) 0 (fun _ => 0) (fun _ => 0) (fun _ => 0) (fun _ => 0) (fun _ => 0) 0 (fun _ => 0) 0 0 0 (fun _ => 0) 0 0 (fun _ => 0) 0 0 (z_u (z_u (z_u (z_u (fun _ => 0) 0 (-1)) 1 (-1)) 2 (-1)) 3 (-1)) (fun _ => 0) (fun _ => 0))) := zD_fst hD9 (by rw [z_wr_fst, z_wr_fst]; rfl)
    exact W.vret hx hb hr (fun t ht hW => ⟨⟨ad, rfl, trivial, e0, by rw [ht]; exact hP, hD8⟩, hS.F ht⟩) hS.2.2 hd
  have key := z_go X tk_Mo_init fok_Mo cok_Mo hRR [] 80 114 [(0, .inr (.inr 0))] [] (wMo (fun _ => 0) (fun _ => 0) (fun _ => 0) 0 (fun _ => 0) (fun _ => 0) (fun _ => 0) (fun _ => 0) (fun _ => 0) 0 (fun _ => 0) 0 0 0 (fun _ => 0) 0 0 (fun _ => 0) 0 0 (fun _ => 0) (fun _ => 0) (fun _ => 0)) (by
    refine ⟨by omega, fun h => absurd h (by omega), fun _ => ?_⟩
    refine ⟨by omega, ?_⟩
    refine ⟨by omega, fun h => absurd h (by omega), fun _ => ?_⟩
    refine ⟨by omega, ?_⟩
    refine ⟨by omega, fun h => absurd h (by omega), fun _ => ?_⟩
    refine ⟨by omega, ?_⟩
    refine ⟨by omega, fun h => absurd h (by omega), fun _ => ?_⟩
    refine ⟨by omega, ?_⟩
    exact ⟨by omega, fun _ => ⟨rfl, rfl⟩, fun h => absurd h (by omega)⟩
    )
  exact key rfl H locs ls (by rw [z_w_wr]; exact hP9) hS hl9
set_option maxHeartbeats 4000000 in
set_option maxRecDepth 100000 in
theorem c_Ni_init : zInit yX1_init cX1_init 2 2 32 38 300 1 [.null, .null, .int 0] (wNi (fun _ => 0) (fun _ => zC0) 0) := by
  intro l D cA h0 sz
  refine Met.ofW (cc := cX1_init) (maxL := 2) (ret := none) (by decide +kernel) rfl ?_
  intro p e s m args below meth c s₁ B hml hv
  obtain ⟨rfl, hsz, hP, hK, hN, hO, hD0⟩ := hv
  have hx := B.exec
  have hb := B.bytes
  have hr := B.returns
  have hts0 := atoms_spec (ws := Cond.code yX1_init cX1_init 2 none :: z_tbl) B.pre
  have hts : ∀ w ∈ z_tbl, w.before ([.ref h0] : List Value).toArray s = true := fun w hw => hts0 w (List.mem_cons_of_mem _ hw)
  have hown : s.vm.findClass RX1 = some m.cls := findClass_of_methodNamed B.named
  have hlocks := B.notSynchronized
  have hin : meth.name = "<init>" := (name_of_methodNamed B.named B.method).1
  subst hsz
  have hD := hD0.self (sz := s.heap.size)
  generalize hAe : va_A [(h0, .inr (1, [.null, .null, .int 0]))] s.heap.size = A at hD ⊢
  have hA : ∀ q : Nat, s.heap.size ≤ q → A q := fun q h => by rw [← hAe]; exact Or.inr h
  have hS : va_S A s.heap s.heap [] := va_S.rf
  have hP : va_P D classes [(h0, .inr (1, [.null, .null, .int 0]))] s.heap := hP
  have hl := lv_entry ([.ref h0]) (n := 2) (Nat.le_of_ble_eq_true rfl)
  rw [lg_entry_eq]
  generalize (lg_sl ([.ref h0]) ++ List.replicate (2 - (lg_sl ([.ref h0])).length) Slot.unset).toArray = ls at hl ⊢
  have hl : lv_has ls 2 [(0, .ref h0)] := hl
  refine lv_aload_n hx hb dX1_init_0 rfl (lv_at hl 0 rfl) ?_
  refine W.objInit hx hb hown (hts (.methodLink RX1 3 objectInit) (z_mem 112 (by decide +kernel) (by decide +kernel))) (hts (.instanceMethod objectInit) (z_mem 66 (by decide +kernel) (by decide +kernel))) (hts (.code objectInit ⟨#[0xb1]⟩ 1 none) (z_mem 67 (by decide +kernel) (by decide +kernel))) rfl (by rw [hml]; exact hl.1) rfl dX1_init_1 (Nat.le_of_ble_eq_true rfl) (Nat.le_of_ble_eq_true rfl) ?_
  refine W.eq (g2 := F0 m 4 ls []) rfl ?_
  refine lv_aload_n hx hb dX1_init_4 rfl (lv_at hl 0 rfl) ?_
  refine lv_bipush (v := 12) hx hb dX1_init_5 (by decide) ?_
  refine z_newI hx hb hts hK hP hD hS hA (N := 12) (by decide) (by decide) (Nat.le_of_ble_eq_true rfl) (Nat.le_of_ble_eq_true rfl) (Nat.le_of_ble_eq_true rfl) dX1_init_7 (fun q1 H hP hD hS => ?_)
  refine W.widen (k := 1) (n := 12) (Nat.le_of_ble_eq_true rfl) (Nat.le_of_ble_eq_true rfl) ?_
  have hP : va_P D classes ([(h0, .inr (1, [.null, .null, .int 0])), (q1, .inl (cA 0, (12, .inl (fun _ => 0))))]) H := hP
  have hD : va_D A ([(h0, .inr (1, [.null, .null, .int 0])), (q1, .inl (cA 0, (12, .inl (fun _ => 0))))]) := hD
  refine va_putF (D := D) (ci := 1) (v := (.ref q1)) (ty := (.array .int)) (C := RX1) (T := TX1) (N := 3) hx hb hts izX1 tyX1 tyX1_ok nmX1 hown hK hP hD hS 0 rfl rfl 0 (by decide) (hts (.fieldLink RX1 9 "FarthestPays$Nights" "sums" "[I") (z_mem 116 (by decide +kernel) (by decide +kernel))) (fun _ h9 => h9) rfl hin rfl (by decide +kernel) rfl rfl (Nat.le_of_ble_eq_true rfl) dX1_init_9 (fun H locs hP hD hS => ?_)
  have hP : va_P D classes ([(h0, .inr (1, [(.ref q1), .null, .int 0])), (q1, .inl (cA 0, (12, .inl (fun _ => 0))))]) H := hP
  have hD : va_D A ([(h0, .inr (1, [(.ref q1), .null, .int 0])), (q1, .inl (cA 0, (12, .inl (fun _ => 0))))]) := hD
  refine lv_aload_n hx hb dX1_init_12 rfl (lv_at hl 0 rfl) ?_
  refine lv_bipush (v := 12) hx hb dX1_init_13 (by decide) ?_
  refine z_newQ0 hx hb hown (hts (.classLink RX1 15 RX0) (z_mem 113 (by decide +kernel) (by decide +kernel))) hO hK hP hD hS hA (N := 12) (by decide) (by decide) (Nat.le_of_ble_eq_true rfl) (Nat.le_of_ble_eq_true rfl) (Nat.le_of_ble_eq_true rfl) dX1_init_15 (fun q2 H hP hD hS => ?_)
  refine W.widen (k := 2) (n := 24) (Nat.le_of_ble_eq_true rfl) (Nat.le_of_ble_eq_true rfl) ?_
  have hP : va_P D classes ([(h0, .inr (1, [(.ref q1), .null, .int 0])), (q1, .inl (cA 0, (12, .inl (fun _ => 0)))), (q2, .inl (cA 2, (12, .inr (.inr (.inr (.inr (fun _ => none)))))))]) H := hP
  have hD : va_D A ([(h0, .inr (1, [(.ref q1), .null, .int 0])), (q1, .inl (cA 0, (12, .inl (fun _ => 0)))), (q2, .inl (cA 2, (12, .inr (.inr (.inr (.inr (fun _ => none)))))))]) := hD
  refine va_putF (D := D) (ci := 1) (v := (.ref q2)) (ty := (.array (.object "FarthestPays$Company"))) (C := RX1) (T := TX1) (N := 3) hx hb hts izX1 tyX1 tyX1_ok nmX1 hown hK hP hD hS 0 rfl rfl 1 (by decide) (hts (.fieldLink RX1 17 "FarthestPays$Nights" "companies" "[LFarthestPays$Company;") (z_mem 117 (by decide +kernel) (by decide +kernel))) (fun _ h9 => h9) rfl hin rfl (by decide +kernel) rfl rfl (Nat.le_of_ble_eq_true rfl) dX1_init_18 (fun H locs hP hD hS => ?_)
  have hP : va_P D classes ([(h0, .inr (1, [(.ref q1), (.ref q2), .int 0])), (q1, .inl (cA 0, (12, .inl (fun _ => 0)))), (q2, .inl (cA 2, (12, .inr (.inr (.inr (.inr (fun _ => none)))))))]) H := hP
  have hD : va_D A ([(h0, .inr (1, [(.ref q1), (.ref q2), .int 0])), (q1, .inl (cA 0, (12, .inl (fun _ => 0)))), (q2, .inl (cA 2, (12, .inr (.inr (.inr (.inr (fun _ => none)))))))]) := hD
  refine lv_aload_n hx hb dX1_init_21 rfl (lv_at hl 0 rfl) ?_
  refine lv_iconst (v := 0) hx hb dX1_init_22 (by decide) ?_
  refine va_put (D := D) (ci := 1) (v := (.int 0)) (ty := .int) (C := RX1) (T := TX1) (N := 3) hx hb hts izX1 tyX1 tyX1_ok nmX1 hown hK hP hD hS 0 rfl rfl 2 (by decide) (hts (.fieldLink RX1 21 "FarthestPays$Nights" "size" "I") (z_mem 118 (by decide +kernel) (by decide +kernel))) (fun _ h9 => h9) rfl (by decide +kernel) rfl rfl (Nat.le_of_ble_eq_true rfl) dX1_init_23 (fun H locs hP hD hS => ?_)
  have hP : va_P D classes ([(h0, .inr (1, [(.ref q1), (.ref q2), (.int 0)])), (q1, .inl (cA 0, (12, .inl (fun _ => 0)))), (q2, .inl (cA 2, (12, .inr (.inr (.inr (.inr (fun _ => none)))))))]) H := hP
  have hD : va_D A ([(h0, .inr (1, [(.ref q1), (.ref q2), (.int 0)])), (q1, .inl (cA 0, (12, .inl (fun _ => 0)))), (q2, .inl (cA 2, (12, .inr (.inr (.inr (.inr (fun _ => none)))))))]) := hD
  refine lv_iconst (v := 0) hx hb dX1_init_26 (by decide) ?_
  refine lv_istore_n (lv' := [(1, .int 0), (0, .ref h0)]) hx hb dX1_init_27 rfl hl (by decide) rfl (fun ls hl => ?_)
  have loop : ∀ d i : Nat, i + d = 12 → ∀ (ads : Nat → Nat → Nat) (H : Heap) (locs : List Loc) (ls : Array Slot), va_P D classes ([(h0, .inr (1, [.ref q1, .ref q2, .int 0])), (q1, .inl (cA 0, (12, .inl (fun _ => 0)))), (q2, .inl (cA 2, (12, .inr (.inr (.inr (.inr (fun j => if j < i then some (ads j 0) else none)))))))] ++ zSegs ads cA (wCo (fun _ => 0) (fun _ => 0) 0 0 0) i) H → va_D A ([(h0, .inr (1, [.ref q1, .ref q2, .int 0])), (q1, .inl (cA 0, (12, .inl (fun _ => 0)))), (q2, .inl (cA 2, (12, .inr (.inr (.inr (.inr (fun j => if j < i then some (ads j 0) else none)))))))] ++ zSegs ads cA (wCo (fun _ => 0) (fun _ => 0) 0 0 0) i) → va_S A s.heap H locs → lv_has ls 2 [(0, .ref h0), (1, .int (Int32.ofInt (i : Int)))] →
      W p l e (headSpec (Cond.code yX1_init cX1_init 2 none :: z_tbl) ({ frames := 2, cells := 38, slots := 300, locals := 32 } : Room)).room s m ([.ref h0] : List Value).toArray below meth c H locs (2 + 3 * i) (24 + 23 * i) (MQ below (va_Qv (fun _ : Nat → Nat => True) (zIPost D cA h0 A (wNi (fun _ => 0) (fun _ => zC0) 0)) A) ([.ref h0] : List Value).toArray s 38 300 A) (F0 m 28 ls []) := by
    intro d
    induction d with
    | zero =>
      intro i hi ads H locs ls hP hD hS hl
      obtain rfl : i = 12 := by omega
      refine lv_iload_n hx hb dX1_init_28 rfl (lv_at hl 1 rfl) ?_
      refine lv_bipush (v := 12) hx hb dX1_init_29 (by decide) ?_
      refine lv_icmp_ge (tgt := 53) hx hb dX1_init_31 (by decide) (fun _ => ?_) (fun h => absurd (by decide) h)
      -- the whole
      obtain ⟨ad, had⟩ : ∃ f : Nat → Nat, f = fun k => if k = 0 then h0 else if k = 1 then q1 else if k = 2 then q2 else ads ((k - 3) / 3) ((k - 3) % 3) := ⟨_, rfl⟩
      have a0 : ad 0 = h0 := by rw [had]; rfl
      have a1 : ad 1 = q1 := by rw [had]; rfl
      have a2 : ad 2 = q2 := by rw [had]; rfl
      have a3 : ∀ i k, k < 3 → ad (3 + 3 * i + k) = ads i k := fun i k hk => by
        rw [had]
        show (if 3 + 3 * i + k = 0 then h0 else if 3 + 3 * i + k = 1 then q1 else if 3 + 3 * i + k = 2 then q2 else ads ((3 + 3 * i + k - 3) / 3) ((3 + 3 * i + k - 3) % 3)) = _
        rw [if_neg (by omega), if_neg (by omega), if_neg (by omega), show (3 + 3 * i + k - 3) / 3 = i by omega, show (3 + 3 * i + k - 3) % 3 = k by omega]
      have hsg := zSegs_at (zP_r (a := [(h0, .inr (1, [.ref q1, .ref q2, .int 0])), (q1, .inl (cA 0, (12, .inl (fun _ => 0)))), (q2, .inl (cA 2, (12, .inr (.inr (.inr (.inr (fun j => if j < 12 then some (ads j 0) else none)))))))]) hP)
      have hs3 : ∀ i, i < 12 → va_P D classes (z_wr ad cA (3 + 3 * i) (zCoC (3 + 3 * i) zC0)) H := fun i hi => by
        have e0 := a3 i 0 (by omega)
        have e1 := a3 i 1 (by omega)
        have e2 := a3 i 2 (by omega)
        have hq := hsg i hi
        have hq : va_P D classes [(ads i 0, .inr (0, [.ref (ads i 1), .ref (ads i 2), .int 0, .int 0, .int 0])), (ads i 1, .inl (cA 0, (9, .inl (fun _ => 0)))), (ads i 2, .inl (cA 0, (9, .inl (fun _ => 0))))] H := hq
        rw [← e0, ← e1, ← e2] at hq
        exact hq
      have hc : va_P D classes (z_wr ad cA 3 (zCos (fun _ => zC0))) H := zP_wapp (hs3 0 (by omega)) (zP_wapp (hs3 1 (by omega)) (zP_wapp (hs3 2 (by omega)) (zP_wapp (hs3 3 (by omega)) (zP_wapp (hs3 4 (by omega)) (zP_wapp (hs3 5 (by omega)) (zP_wapp (hs3 6 (by omega)) (zP_wapp (hs3 7 (by omega)) (zP_wapp (hs3 8 (by omega)) (zP_wapp (hs3 9 (by omega)) (zP_wapp (hs3 10 (by omega)) (hs3 11 (by omega))))))))))))
      have h3 := zP_l (b := zSegs ads cA (wCo (fun _ => 0) (fun _ => 0) 0 0 0) 12) hP
      have hr0 := h3 0 _ rfl
      have hr1 := h3 1 _ rfl
      have hr2 := h3 2 _ rfl
      have hrow : va_at D classes (ad 2, z_e ad cA (.inr (0, (12, .inr (.inr (fun j => 3 + 3 * j.toNat)))))) H := by
        have er : vp_cell (cA 2) (12, .inr (.inr (.inr (.inr (fun j : Nat => some (ad (3 + 3 * ((j : Int)).toNat))))))) = vp_cell (cA 2) (12, .inr (.inr (.inr (.inr (fun j => if j < 12 then some (ads j 0) else none))))) := by
          simp only [vp_cell, arrV]
          congr 2
          funext j
          rw [if_pos j.isLt, Int.toNat_natCast, ← a3 j.val 0 (by omega)]
          rfl
        show H[ad 2]? = some (vp_cell (cA 2) (12, .inr (.inr (.inr (.inr (fun j : Nat => some (ad (3 + 3 * ((j : Int)).toNat))))))))
        rw [er, a2]
        exact hr2
      have hP9 : va_P D classes (z_wr ad cA 0 (wNi (fun _ => 0) (fun _ => zC0) 0)) H := by
        refine zP_c ?_ (zP_c ?_ (zP_c hrow hc))
        · show va_at D classes (ad 0, .inr (1, [.ref (ad 1), .ref (ad 2), .int 0])) H
          rw [a0, a1, a2]; exact hr0
        · show va_at D classes (ad 1, .inl (cA 0, (12, .inl (fun _ => 0)))) H
          rw [a1]; exact hr1
      have hD9 : va_D A (z_wr ad cA 0 (wNi (fun _ => 0) (fun _ => zC0) 0)) := by
        refine zD_fst hD ?_
        rw [z_wr_fst, List.map_append, zSegs_fst (ad := ad) (o := 3) (r := 3) rfl 12 (fun i k _ hk => a3 i k hk)]
        show ad 0 :: ad 1 :: ad 2 :: (List.range' 3 36).map ad = h0 :: q1 :: q2 :: (List.range' 3 36).map ad
        rw [a0, a1, a2]
      exact W.vret hx hb hr (fun t ht hW => ⟨⟨ad, rfl, trivial, a0, by rw [ht]; exact hP9, hD9⟩, hS.F ht⟩) hS.2.2 dX1_init_53
    | succ d ih =>
      intro i hi ads H locs ls hP hD hS hl
      refine lv_iload_n hx hb dX1_init_28 rfl (lv_at hl 1 rfl) ?_
      refine lv_bipush (v := 12) hx hb dX1_init_29 (by decide) ?_
      refine lv_icmp_ge (tgt := 53) hx hb dX1_init_31 (by decide) (fun h => ?_) (fun _ => ?_)
      · have h2 : Int32.ofInt 12 ≤ Int32.ofInt (i : Int) := h
        rw [z_rle (by omega) (by omega)] at h2
        omega
      refine lv_aload_n hx hb dX1_init_34 rfl (lv_at hl 0 rfl) ?_
      refine va_get (D := D) (ci := 1) (v := (.ref q2)) (C := RX1) (T := TX1) (N := 3) hx hb hts izX1 hown hK hP 0 rfl rfl 1 (by decide) (hts (.fieldLink RX1 17 "FarthestPays$Nights" "companies" "[LFarthestPays$Company;") (z_mem 117 (by decide +kernel) (by decide +kernel))) (fun _ h9 => h9) rfl dX1_init_35 ?_
      refine lv_iload_n hx hb dX1_init_38 rfl (lv_at hl 1 rfl) ?_
      refine va_new (ci := 0) (fs := [.null, .null, .int 0, .int 0, .int 0]) (C := RX0) (T := TX0) (N := 5) hx hb hts izX0 tyX0 tyX0_ok hown (hts (.classLink RX1 15 RX0) (z_mem 113 (by decide +kernel) (by decide +kernel))) (hts (.instantiable RX0 5) (z_mem 86 (by decide +kernel) (by decide +kernel))) (hts (.initialized RX0) (z_mem 52 (by decide +kernel) (by decide +kernel))) hK hP hD hS hA rfl (fun j hj => by rcases (show j = 0 ∨ j = 1 ∨ j = 2 ∨ j = 3 ∨ j = 4 by omega) with rfl | rfl | rfl | rfl | rfl <;> rfl) (show 2 + 3 * i + 1 ≤ 38 by omega) (show 24 + 23 * i + 5 ≤ 300 by omega) dX1_init_39 (fun q5 H hP hD hS => ?_)
      refine W.widen (k := 3 + 3 * i) (n := 29 + 23 * i) (by omega) (by omega) ?_
      refine lv_dup hx hb dX1_init_42 rfl ?_
      refine zCallI hx hb hml hown hts hK hN hO c_Co_init yI_Co (i := 25) (Or.inr ⟨"FarthestPays", List.mem_of_getElem? (i := 3) (by decide +kernel)⟩) ⟨Nat.le_of_ble_eq_true rfl, Nat.le_of_ble_eq_true rfl⟩ ⟨show 3 + 3 * i + 2 ≤ 38 by omega, show 29 + 23 * i + 18 ≤ 300 by omega⟩ hP hD hS hA hl.1 (Nat.le_of_ble_eq_true rfl) dX1_init_43 (fun ad1 H locs e0 hP hD hS => ?_)
      rw [← e0]
      have hcl : (((Int32.ofInt (i : Int)).toNatClampNeg : Nat) : Int) = (i : Int) := z_cl (n := 12) (by omega)
      have hcl2 : (Int32.ofInt (i : Int)).toNatClampNeg = i := by omega
      refine va_astq (r := (RX0, TX0, 5)) (f := (fun j => if j < i then some (ads j 0) else none)) hx hb hK hP hD hS 2 2 (([(h0, .inr (1, [.ref q1, .ref q2, .int 0])), (q1, .inl (cA 0, (12, .inl (fun _ => 0)))), (q2, .inl (cA 2, (12, .inr (.inr (.inr (.inr (fun j => if j < i then some (ads j 0) else none)))))))] : va_W) ++ zSegs ads cA (wCo (fun _ => 0) (fun _ => 0) 0 0 0) i).length 0 rfl rfl (vs := [.ref (ad1 1), .ref (ad1 2), .int 0, .int 0, .int 0]) (by rw [List.getElem?_append_right (Nat.le_refl _), Nat.sub_self]; rfl) rfl (z_vin (i := (i : Int)) (n := 12) (by omega)) dX1_init_46 (fun H locs hP hD hS => ?_)
      rw [hcl2] at hP hD
      have erow := zRowUp ads ad1 i
      have hP : va_P D classes (([(h0, .inr (1, [.ref q1, .ref q2, .int 0])), (q1, .inl (cA 0, (12, .inl (fun _ => 0)))), (q2, .inl (cA 2, (12, .inr (.inr (.inr (.inr (va_up (fun j => if j < i then some (ads j 0) else none) i (some (ad1 0)))))))))] ++ zSegs ads cA (wCo (fun _ => 0) (fun _ => 0) 0 0 0) i) ++ z_wr ad1 cA 0 (wCo (fun _ => 0) (fun _ => 0) 0 0 0)) H := hP
      have hD : va_D A (([(h0, .inr (1, [.ref q1, .ref q2, .int 0])), (q1, .inl (cA 0, (12, .inl (fun _ => 0)))), (q2, .inl (cA 2, (12, .inr (.inr (.inr (.inr (va_up (fun j => if j < i then some (ads j 0) else none) i (some (ad1 0)))))))))] ++ zSegs ads cA (wCo (fun _ => 0) (fun _ => 0) 0 0 0) i) ++ z_wr ad1 cA 0 (wCo (fun _ => 0) (fun _ => 0) 0 0 0)) := hD
      rw [erow, List.append_assoc, zSegs_cong (ads2 := fun j => if j = i then ad1 else ads j) i (fun j hj => by rw [if_neg (by omega)])] at hP hD
      have esg : zSegs (fun j => if j = i then ad1 else ads j) cA (wCo (fun _ => 0) (fun _ => 0) 0 0 0) i ++ z_wr ad1 cA 0 (wCo (fun _ => 0) (fun _ => 0) 0 0 0) = zSegs (fun j => if j = i then ad1 else ads j) cA (wCo (fun _ => 0) (fun _ => 0) 0 0 0) (i + 1) := by
        show _ = zSegs (fun j => if j = i then ad1 else ads j) cA (wCo (fun _ => 0) (fun _ => 0) 0 0 0) i ++ z_wr (if i = i then ad1 else ads i) cA 0 (wCo (fun _ => 0) (fun _ => 0) 0 0 0)
        rw [if_pos rfl]
      rw [esg] at hP hD
      refine lv_iinc (v := Int32.ofInt ((i + 1 : Nat) : Int)) (k := 1) (lv' := [(1, .int (Int32.ofInt ((i + 1 : Nat) : Int))), (0, .ref h0)]) hx hb dX1_init_47 hl rfl (by
        rw [show ((i + 1 : Nat) : Int) = (i : Int) + 1 by omega, Int32.ofInt_add]) (by decide) rfl (fun ls hl => ?_)
      refine lv_goto (tgt := 28) hx hb dX1_init_50 (by decide) ?_
      refine W.widen (k := 2 + 3 * (i + 1)) (n := 24 + 23 * (i + 1)) (by omega) (by omega) ?_
      exact ih (i + 1) (by omega) (fun j => if j = i then ad1 else ads j) H locs ls hP hD hS (lv_sub hl [1, 0] rfl)
  refine W.widen (k := 2 + 3 * 0) (n := 24 + 23 * 0) (Nat.le_of_ble_eq_true rfl) (Nat.le_of_ble_eq_true rfl) ?_
  have erow3 : (fun (_ : Nat) => (none : Option Nat)) = (fun j => if j < 0 then some ((fun _ _ => 0) j 0) else none) := by
    funext j
    rw [if_neg (Nat.not_lt_zero j)]
  rw [erow3] at hP hD
  exact loop 12 0 rfl (fun _ _ => 0) H locs ls (by rw [show zSegs (fun _ _ => 0) cA (wCo (fun _ => 0) (fun _ => 0) 0 0 0) 0 = [] from rfl, List.append_nil]; exact hP) (by rw [show zSegs (fun _ _ => 0) cA (wCo (fun _ => 0) (fun _ => 0) 0 0 0) 0 = [] from rfl, List.append_nil]; exact hD) hS (lv_sub hl [1, 0] rfl)
