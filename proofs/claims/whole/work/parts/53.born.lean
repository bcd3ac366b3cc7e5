/-! CONSTRUCTORS: what is made, in general -/
def z_wr (ad : Nat → Nat) (cA : Nat → ClassId) : Nat → zW → va_W
  | _, [] => []
  | o, c :: ws => (ad o, z_e ad cA c) :: z_wr ad cA (o + 1) ws
theorem z_wr_get (ad : Nat → Nat) (cA : Nat → ClassId) : ∀ (ws : zW) (o k : Nat), (z_wr ad cA o ws)[k]? = (ws[k]?).map (fun c => (ad (o + k), z_e ad cA c))
  | [], o, k => by simp [z_wr]
  | c :: ws, o, 0 => rfl
  | c :: ws, o, k + 1 => by
    show (z_wr ad cA (o + 1) ws)[k]? = (ws[k]?).map _
    rw [z_wr_get ad cA ws (o + 1) k, show o + (k + 1) = o + 1 + k by omega]
theorem z_w_wr (ad : Nat → Nat) (cA : Nat → ClassId) (ws : zW) : z_w ad cA ws = z_wr ad cA 0 ws := List.ext_getElem? (fun k => by rw [z_w_get, z_wr_get, Nat.zero_add])
theorem z_wr_app (ad : Nat → Nat) (cA : Nat → ClassId) : ∀ (a b : zW) (o : Nat), z_wr ad cA o (a ++ b) = z_wr ad cA o a ++ z_wr ad cA (o + a.length) b
  | [], b, o => rfl
  | c :: a, b, o => by
    show (ad o, z_e ad cA c) :: z_wr ad cA (o + 1) (a ++ b) = (ad o, z_e ad cA c) :: (z_wr ad cA (o + 1) a ++ z_wr ad cA (o + (a.length + 1)) b)
    rw [z_wr_app ad cA a b (o + 1), show o + (a.length + 1) = o + 1 + a.length by omega]
theorem z_wr_fst (ad : Nat → Nat) (cA : Nat → ClassId) : ∀ (ws : zW) (o : Nat), (z_wr ad cA o ws).map (fun q => q.1) = (List.range' o ws.length).map ad
  | [], o => rfl
  | c :: ws, o => by
    show ad o :: (z_wr ad cA (o + 1) ws).map (fun q => q.1) = ad o :: (List.range' (o + 1) ws.length).map ad
    rw [z_wr_fst ad cA ws (o + 1)]
theorem z_rg_map {f h : Nat → Nat} : ∀ (n o o2 : Nat), (∀ k, k < n → f (o + k) = h (o2 + k)) → (List.range' o n).map f = (List.range' o2 n).map h
  | 0, o, o2, _ => rfl
  | n + 1, o, o2, hq => by
    have h0 := hq 0 (by omega)
    have h1 := z_rg_map n (o + 1) (o2 + 1) (fun k hk => by
      have := hq (k + 1) (by omega)
      rw [show o + 1 + k = o + (k + 1) by omega, show o2 + 1 + k = o2 + (k + 1) by omega]; exact this)
    show f o :: (List.range' (o + 1) n).map f = h o2 :: (List.range' (o2 + 1) n).map h
    rw [h1]
    have h0 : f o = h o2 := h0
    rw [h0]
def zClv (N : Nat) : zV → Prop
  | .inr (.inr k) => k < N
  | _ => True
def zCl (N : Nat) : zC → Prop
  | .inl o => ∀ v ∈ o.2, zClv N v
  | .inr (_, (n, .inr (.inr f))) => ∀ j : Nat, j < n → f j < N
  | _ => True
theorem zP_cell {D : va_G} {cA : Nat → ClassId} {ad' ad1 : Nat → Nat} {o n : Nat} (hag : ∀ k, k < n + 1 → ad' (o + k) = ad1 k) {c : zC} (hc : zCl (n + 1) c) {a : Nat} {H : Heap} (h : va_at D classes (a, z_e ad1 cA c) H) : va_at D classes (a, z_e ad' cA (z_ren (List.range' o (n + 1)) c)) H := by
  have hpl : ∀ k, z_pl (List.range' o (n + 1)) k = o + k := fun k => z_pl_range n o k
  rcases c with ⟨ci, fs⟩ | ⟨t, N, f | f | f⟩
  · have e : (fs.map (z_rv (List.range' o (n + 1)))).map (z_v ad') = fs.map (z_v ad1) := by
      rw [List.map_map]
      refine List.map_congr_left fun v hv => ?_
      have hk := hc v hv
      rcases v with x | x | x
      · rfl
      · rfl
      · show Value.ref (ad' (z_pl _ x)) = Value.ref (ad1 x)
        rw [hpl, hag x hk]
    show va_at D classes (a, .inr (ci, (fs.map (z_rv (List.range' o (n + 1)))).map (z_v ad'))) H
    rw [e]; exact h
  · exact h
  · exact h
  · have e : vp_cell (cA (2 + t)) (N, .inr (.inr (.inr (.inr (fun j : Nat => some (ad' (z_pl (List.range' o (n + 1)) (f (j : Int))))))))) = vp_cell (cA (2 + t)) (N, .inr (.inr (.inr (.inr (fun j : Nat => some (ad1 (f (j : Int)))))))) := by
      simp only [vp_cell, arrV]
      congr 2
      funext j
      rw [hpl, hag _ (hc j.val j.isLt)]
    show H[a]? = some (vp_cell (cA (2 + t)) (N, .inr (.inr (.inr (.inr (fun j : Nat => some (ad' (z_pl (List.range' o (n + 1)) (f (j : Int)))))))))) 
    rw [e]; exact h
theorem zP_seg {D : va_G} {cA : Nat → ClassId} {ad' ad1 : Nat → Nat} {o n : Nat} (hag : ∀ k, k < n + 1 → ad' (o + k) = ad1 k) {w : zW} (hc : ∀ c ∈ w, zCl (n + 1) c) (hl : w.length ≤ n + 1) {H : Heap} (hP : va_P D classes (z_wr ad1 cA 0 w) H) : va_P D classes (z_wr ad' cA o (w.map (z_ren (List.range' o (n + 1))))) H := by
  intro k q hq
  rw [z_wr_get, List.getElem?_map] at hq
  cases hk : w[k]? with
  | none => rw [hk] at hq; cases hq
  | some c =>
    rw [hk] at hq
    have := Option.some.inj hq
    subst this
    have h1 : (z_wr ad1 cA 0 w)[k]? = some (ad1 (0 + k), z_e ad1 cA c) := by rw [z_wr_get, hk]; rfl
    have h2 := hP k _ h1
    rw [Nat.zero_add] at h2
    have hlt := (List.getElem?_eq_some_iff.mp hk).1
    show va_at D classes (ad' (o + k), _) H
    rw [hag k (by omega)]
    exact zP_cell hag (hc c (List.mem_of_getElem? hk)) h2
theorem zP_l {D : va_G} {a b : va_W} {H : Heap} (h : va_P D classes (a ++ b) H) : va_P D classes a H := fun k q hq => h k q (by rw [List.getElem?_append_left (List.getElem?_eq_some_iff.mp hq).1]; exact hq)
theorem zP_r {D : va_G} {a b : va_W} {H : Heap} (h : va_P D classes (a ++ b) H) : va_P D classes b H := fun k q hq => h (a.length + k) q (by rw [List.getElem?_append_right (by omega), Nat.add_sub_cancel_left]; exact hq)
theorem zD_fst {A : Nat → Prop} {L L2 : va_W} (h : va_D A L) (e : L2.map (fun q => q.1) = L.map (fun q => q.1)) : va_D A L2 := by
  have at2 : ∀ (i : Nat) (p : Nat × va_E), L2[i]? = some p → ∃ p2, L[i]? = some p2 ∧ p2.1 = p.1 := by
    intro i p hp
    have h1 : (L2.map (fun q => q.1))[i]? = some p.1 := by rw [List.getElem?_map, hp]; rfl
    rw [e, List.getElem?_map] at h1
    cases hL : L[i]? with
    | none => rw [hL] at h1; cases h1
    | some p2 => rw [hL] at h1; exact ⟨p2, rfl, Option.some.inj h1⟩
  refine ⟨fun i j p q hp hq hpq => ?_, fun k q hq => ?_⟩
  · obtain ⟨p2, a1, a2⟩ := at2 i p hp
    obtain ⟨q2, b1, b2⟩ := at2 j q hq
    exact h.1 i j p2 q2 a1 b1 (by rw [a2, b2]; exact hpq)
  · obtain ⟨q2, b1, b2⟩ := at2 k q hq
    rw [← b2]; exact h.2 k q2 b1
theorem zFree1 {A : Nat → Prop} {L : va_W} {q : Nat} {x : va_E} {H0 H : Heap} {locs : List Loc} (hD : va_D A (L ++ [(q, x)])) (hS : va_S A H0 H locs) (hA : ∀ y, H0.size ≤ y → A y) : ∀ y, va_A [(q, x)] H.size y → A y := by
  intro y hy
  rcases hy with ⟨k, e', hk⟩ | hy
  · have hz : k < 1 := (List.getElem?_eq_some_iff.mp hk).1
    rw [show k = 0 by omega] at hk
    cases hk
    exact hD.2 L.length (q, x) (by rw [List.getElem?_append_right (Nat.le_refl _), Nat.sub_self]; rfl)
  · exact hA y (Nat.le_trans hS.1 hy)
theorem zJoin {D : va_G} {A : Nat → Prop} {L W1 : va_W} {q : Nat} {x : va_E} {H0 H H1 : Heap} {locs : List Loc} (hP : va_P D classes (L ++ [(q, x)]) H) (hD : va_D A (L ++ [(q, x)])) (hS : va_S A H0 H locs) (hA : ∀ y, H0.size ≤ y → A y) (hk : ∀ y, y < H.size → ¬ va_A [(q, x)] H.size y → H1[y]? = H[y]?) (hP1 : va_P D classes W1 H1) (hD1 : va_D (va_A [(q, x)] H.size) W1) : va_P D classes (L ++ W1) H1 ∧ va_D A (L ++ W1) := by
  have hq : (L ++ [(q, x)])[L.length]? = some (q, x) := by rw [List.getElem?_append_right (Nat.le_refl _), Nat.sub_self]; rfl
  have hL : ∀ (k : Nat) (z : Nat × va_E), L[k]? = some z → k < L.length ∧ (L ++ [(q, x)])[k]? = some z := fun k z hz => by
    have h1 := (List.getElem?_eq_some_iff.mp hz).1
    exact ⟨h1, by rw [List.getElem?_append_left h1]; exact hz⟩
  have out : ∀ (k : Nat) (z : Nat × va_E), L[k]? = some z → z.1 < H.size ∧ ¬ va_A [(q, x)] H.size z.1 := fun k z hz => by
    obtain ⟨h1, h2⟩ := hL k z hz
    have h3 := (hP k z h2).lt
    refine ⟨h3, fun h => ?_⟩
    rcases h with ⟨i, e', hi⟩ | h
    · have hz2 : i < 1 := (List.getElem?_eq_some_iff.mp hi).1
      rw [show i = 0 by omega] at hi
      have hi2 : (q, x) = (z.1, e') := Option.some.inj hi
      have : q = z.1 := congrArg Prod.fst hi2
      have := hD.1 k L.length z (q, x) h2 hq this.symm
      omega
    · omega
  have inW : ∀ y, va_A [(q, x)] H.size y → A y := zFree1 hD hS hA
  refine ⟨va_P.app (fun k z hz => ?_) hP1, ⟨fun i j y z hy hz h => ?_, fun k z hz => ?_⟩⟩
  · obtain ⟨h1, h2⟩ := hL k z hz
    obtain ⟨h3, h4⟩ := out k z hz
    exact (hP k z h2).kept (hk z.1 h3 h4)
  · by_cases hi : i < L.length
    · rw [List.getElem?_append_left hi] at hy
      by_cases hj : j < L.length
      · rw [List.getElem?_append_left hj] at hz
        exact hD.1 i j y z (hL i y hy).2 (hL j z hz).2 h
      · rw [List.getElem?_append_right (by omega)] at hz
        exact absurd (by rw [h]; exact hD1.2 _ z hz) (out i y hy).2
    · rw [List.getElem?_append_right (by omega)] at hy
      by_cases hj : j < L.length
      · rw [List.getElem?_append_left hj] at hz
        exact absurd (by rw [← h]; exact hD1.2 _ y hy) (out j z hz).2
      · rw [List.getElem?_append_right (by omega)] at hz
        have := hD1.1 _ _ y z hy hz h
        omega
  · by_cases hi : k < L.length
    · rw [List.getElem?_append_left hi] at hz
      exact hD.2 k z (hL k z hz).2
    · rw [List.getElem?_append_right (by omega)] at hz
      exact inW _ (hD1.2 _ z hz)
/-- a new row of a class that is known -/
theorem z_newI {p : Program} {l : Launch} {e : Env} {R : Room} {s : State} {m : MethodId} {args : Array Value} {below : List Frame} {meth : Method} {c : Code} {H : Heap} {locs : List Loc} {cells slots : Nat} {Q : State → Prop} {cc : ByteArray} {pc : Nat} {ls : Array Slot} {rest : List Value} {D : va_G} {cA : Nat → ClassId} {A : Nat → Prop} {H0 : Heap} (hx : p.tables.exec = Jvm.exec) (hb : c.code = cc) (hts : ∀ w ∈ z_tbl, w.before args s = true) (hK : va_K D classes (z_t cA) s) {ws : va_W} (hP : va_P D classes ws H) (hD : va_D A ws) (hS : va_S A H0 H locs) (hA : ∀ q, H0.size ≤ q → A q)
    {n : Int32} {N : Nat} (hn : ¬ n < 0) (hN : n.toNatClampNeg = N) (hbytes : N * componentBytes FieldType.int ≤ 536870912) (hcells : cells + 1 ≤ R.cells) (hslots : slots + N ≤ R.slots) (hdg : decode cc pc = .ok (.newarray .int, 2))
    (kk : ∀ (q : Nat) (H1 : Heap), va_P D classes (ws ++ [(q, .inl (cA 0, (N, .inl (fun _ => 0))))]) H1 → va_D A (ws ++ [(q, .inl (cA 0, (N, .inl (fun _ => 0))))]) → va_S A H0 H1 locs → W p l e R s m args below meth c H1 locs (cells + 1) (slots + N) Q (F0 m (pc + 2) ls (.ref q :: rest))) : W p l e R s m args below meth c H locs cells slots Q (F0 m pc ls (.int n :: rest)) := by
  refine va_newa (atype := .int) hx hb (hts _ (z_mem 84 (by decide +kernel) (by decide +kernel))) rfl hK hP hD hS hA (a0 := (N, .inl (fun _ => 0))) (fun _ => rfl) hn hN hbytes hcells hslots hdg (fun q cB H1 hK1 hP1 hD1 hS1 => ?_)
  have h1 := (hK1.2 4 (cB, .int) rfl).2
  have h2 := (hK.2 0 (cA 0, .int) rfl).2
  have h3 : s.vm.findClass ("[" ++ FieldType.int.toString) = some cB := h1
  have h4 : s.vm.findClass ("[" ++ FieldType.int.toString) = some (cA 0) := h2
  have h5 : cB = cA 0 := Option.some.inj (h3.symm.trans h4)
  subst h5
  exact kk q H1 hP1 hD1 hS1
theorem z_newJ {p : Program} {l : Launch} {e : Env} {R : Room} {s : State} {m : MethodId} {args : Array Value} {below : List Frame} {meth : Method} {c : Code} {H : Heap} {locs : List Loc} {cells slots : Nat} {Q : State → Prop} {cc : ByteArray} {pc : Nat} {ls : Array Slot} {rest : List Value} {D : va_G} {cA : Nat → ClassId} {A : Nat → Prop} {H0 : Heap} (hx : p.tables.exec = Jvm.exec) (hb : c.code = cc) (hts : ∀ w ∈ z_tbl, w.before args s = true) (hK : va_K D classes (z_t cA) s) {ws : va_W} (hP : va_P D classes ws H) (hD : va_D A ws) (hS : va_S A H0 H locs) (hA : ∀ q, H0.size ≤ q → A q)
    {n : Int32} {N : Nat} (hn : ¬ n < 0) (hN : n.toNatClampNeg = N) (hbytes : N * componentBytes FieldType.long ≤ 536870912) (hcells : cells + 1 ≤ R.cells) (hslots : slots + N ≤ R.slots) (hdg : decode cc pc = .ok (.newarray .long, 2))
    (kk : ∀ (q : Nat) (H1 : Heap), va_P D classes (ws ++ [(q, .inl (cA 1, (N, .inr (.inl (fun _ => 0)))))]) H1 → va_D A (ws ++ [(q, .inl (cA 1, (N, .inr (.inl (fun _ => 0)))))]) → va_S A H0 H1 locs → W p l e R s m args below meth c H1 locs (cells + 1) (slots + N) Q (F0 m (pc + 2) ls (.ref q :: rest))) : W p l e R s m args below meth c H locs cells slots Q (F0 m pc ls (.int n :: rest)) := by
  refine va_newa (atype := .long) hx hb (hts _ (z_mem 179 (by decide +kernel) (by decide +kernel))) rfl hK hP hD hS hA (a0 := (N, .inr (.inl (fun _ => 0)))) (fun _ => rfl) hn hN hbytes hcells hslots hdg (fun q cB H1 hK1 hP1 hD1 hS1 => ?_)
  have h1 := (hK1.2 4 (cB, .long) rfl).2
  have h2 := (hK.2 1 (cA 1, .long) rfl).2
  have h3 : s.vm.findClass ("[" ++ FieldType.long.toString) = some cB := h1
  have h4 : s.vm.findClass ("[" ++ FieldType.long.toString) = some (cA 1) := h2
  have h5 : cB = cA 1 := Option.some.inj (h3.symm.trans h4)
  subst h5
  exact kk q H1 hP1 hD1 hS1
-- contracts of constructors
def z_O (U : State) : Prop := va_AO RX0 U ∧ va_AO RX2 U
theorem z_O_moved {u U : State} (hvm : u.vm.Alike U.vm) (h : z_O u) : z_O U := ⟨va_AO.moved hvm h.1, va_AO.moved hvm h.2⟩
abbrev zIPre (D : va_G) (cA : Nat → ClassId) (h0 ci : Nat) (fs : List Value) (sz : Nat) : State → Prop := fun U => U.heap.size = sz ∧ va_P D classes [(h0, .inr (ci, fs))] U.heap ∧ va_K D classes (z_t cA) U ∧ z_N U ∧ z_O U ∧ va_D (fun _ => True) [(h0, .inr (ci, fs))]
abbrev zIPost (D : va_G) (cA : Nat → ClassId) (h0 : Nat) (A : Nat → Prop) (V : zW) : (Nat → Nat) → State → Prop := fun ad t => ad 0 = h0 ∧ va_P D classes (z_wr ad cA 0 V) t.heap ∧ va_D A (z_wr ad cA 0 V)
def zInit (y : MethodName) (cc : ByteArray) (nL fr lc mc ms ci : Nat) (fs : List Value) (V : zW) : Prop := ∀ (l : Launch) (D : va_G) (cA : Nat → ClassId) (h0 sz : Nat), Met l y (Cond.code y cc nL none :: z_tbl) ({ frames := fr, cells := mc, slots := ms, locals := lc } : Room) (va_Pc [.ref h0] (zIPre D cA h0 ci fs sz)) (va_Qv (fun _ : Nat → Nat => True) (zIPost D cA h0 (va_A [(h0, .inr (ci, fs))] sz) V) (va_A [(h0, .inr (ci, fs))] sz)) mc ms (va_A [(h0, .inr (ci, fs))] sz)
def zyI (y : MethodName) (cc : ByteArray) (nL : Nat) : Prop := (y.cls ≠ "java/lang/invoke/MethodHandle" ∧ y.cls ≠ "java/lang/invoke/VarHandle" ∧ (parseMethodDescriptor y.desc).map (fun d => d.parameters.length) = some 0) ∧ Cond.initialized y.cls ∈ z_tbl ∧ Cond.code y cc nL none ∈ z_tbl ∧ Cond.instanceMethod y ∈ z_tbl ∧ y.name = "<init>"
/-- a constructor called upon the newest cell -/
theorem zCallI {p : Program} {l : Launch} {e : Env} {R : Room} {s : State} {m : MethodId} {args : Array Value} {below : List Frame} {meth : Method} {c : Code} {H : Heap} {locs : List Loc} {cells slots : Nat} {Q : State → Prop} {cc : ByteArray} {pc : Nat} {ls : Array Slot} {rest : List Value} {D : va_G} {cA : Nat → ClassId} {A : Nat → Prop} {H0 : Heap} {nL : Nat} {own : String} (hx : p.tables.exec = Jvm.exec) (hb : c.code = cc) (hml : c.maxLocals = nL) (hown : s.vm.findClass own = some m.cls) (hts : ∀ w ∈ z_tbl, w.before args s = true) (hK : va_K D classes (z_t cA) s) (hN : z_N s) (hO : z_O s)
    {y : MethodName} {c2 : ByteArray} {n2 fr lc mc ms ci : Nat} {fs : List Value} {V : zW} (hM : zInit y c2 n2 fr lc mc ms ci fs V) (hy : zyI y c2 n2) {i : Nat} (hlk : z_lk1 own i y) (hroom : fr + 1 ≤ R.frames ∧ 8 + (n2 + 11) + lc ≤ R.locals) (hfit : cells + mc ≤ R.cells ∧ slots + ms ≤ R.slots)
    {L : va_W} {q : Nat} (hP : va_P D classes (L ++ [(q, .inr (ci, fs))]) H) (hD : va_D A (L ++ [(q, .inr (ci, fs))])) (hS : va_S A H0 H locs) (hA : ∀ x, H0.size ≤ x → A x) (hls : ls.size = nL) (hcat : (rest.map fun v => v.category).sum ≤ 8) (hdg : decode cc pc = .ok (.invokespecial i, 3))
    (kk : ∀ (ad : Nat → Nat) (H1 : Heap) (locs1 : List Loc), ad 0 = q → va_P D classes (L ++ z_wr ad cA 0 V) H1 → va_D A (L ++ z_wr ad cA 0 V) → va_S A H0 H1 locs1 → W p l e R s m args below meth c H1 locs1 (cells + mc) (slots + ms) Q (F0 m (pc + 3) ls rest)) : W p l e R s m args below meth c H locs cells slots Q (F0 m pc ls (.ref q :: rest)) := by
  obtain ⟨hy1, hy2, hy3, hy4, hy5⟩ := hy
  have hF := zFree1 hD hS hA
  have hPc := zP_r hP
  have hDc : va_D (fun _ => True) [(q, (Sum.inr (ci, fs) : va_E))] := ⟨fun a b x z ha hb _ => by
    have h1 := (List.getElem?_eq_some_iff.mp ha).1
    have h2 := (List.getElem?_eq_some_iff.mp hb).1
    have h3 : a < 1 := h1
    have h4 : b < 1 := h2
    omega, fun _ _ _ => trivial⟩
  have hp : PreS s H (va_Pc [.ref q] (zIPre D cA q ci fs H.size)) [.ref q] := ⟨fun a U g mk z => by
    obtain ⟨q0, q1, qP, qK, qN, qO, qD⟩ := z
    exact ⟨q0, q1, qP, va_K.moved (u := U) (U := U.calling g mk a) (Vm.Alike.refl U.vm) qK, z_N_same (u := U) (U := U.calling g mk a) rfl qN, z_O_moved (u := U) (U := U.calling g mk a) (Vm.Alike.refl U.vm) qO, qD⟩, fun U hU hW => ⟨rfl, by rw [hU], by rw [hU]; exact hPc, va_K.moved hW.alike hK, z_N_warm hW hN, z_O_moved hW.alike hO, hDc⟩⟩
  have run : va_Run p l e R s m args below meth c H locs cells slots mc ms (F0 m pc ls (.ref q :: rest)) rest (va_Qv (fun _ : Nat → Nat => True) (zIPost D cA q (va_A [(q, .inr (ci, fs))] H.size) V) (va_A [(q, .inr (ci, fs))] H.size) [Value.ref q].toArray) (va_A [(q, .inr (ci, fs))] H.size) := by
    rcases hlk with hlk | ⟨host, hlk⟩
    · exact va_runI (As := []) (rest := rest) ⟨hx, hb, hml, hown, hts⟩ (hM l D cA q H.size) (n := 0) ⟨callB_of 0 hts (z_goodIn (y := (y, (c2, (n2, (none, (0, 0)))))) hy3) rfl rfl rfl (hts _ hy2) (hts _ hlk) hy1 hroom, hy5, hts _ hy4⟩ hp rfl rfl hls rfl (lv_room hcat) hdg hfit
    · exact va_runIN (As := []) (rest := rest) ⟨hx, hb, hml, hown, hts⟩ (hM l D cA q H.size) (n := 0) (host := host) ⟨va_cnB 0 hts (z_goodIn (y := (y, (c2, (n2, (none, (0, 0)))))) hy3) rfl rfl rfl (hN _ hlk) (hts _ hy2) hy1 hroom, hy5, hts _ hy4⟩ hp rfl rfl hls rfl (lv_room hcat) hdg hfit
  refine va_callv run hS (fun x _ h => hF x h) hF (fun ad t H1 locs1 ht hvm _ hB hz hk hS1 => ?_)
  obtain ⟨e0, hP1, hD1⟩ := hB
  rw [ht] at hP1
  obtain ⟨hP2, hD2⟩ := zJoin hP hD hS hA hk hP1 hD1
  exact kk ad H1 locs1 e0 hP2 hD2 hS1
theorem dX0_init_0 : decode cX0_init 0 = .ok (.aload_n 0, 1) := by decide +kernel
theorem dX0_init_1 : decode cX0_init 1 = .ok (.invokespecial 3, 3) := by decide +kernel
theorem dX0_init_4 : decode cX0_init 4 = .ok (.aload_n 0, 1) := by decide +kernel
theorem dX0_init_5 : decode cX0_init 5 = .ok (.bipush 9, 2) := by decide +kernel
theorem dX0_init_7 : decode cX0_init 7 = .ok (.newarray .int, 2) := by decide +kernel
theorem dX0_init_9 : decode cX0_init 9 = .ok (.putfield 9, 3) := by decide +kernel
theorem dX0_init_12 : decode cX0_init 12 = .ok (.aload_n 0, 1) := by decide +kernel
theorem dX0_init_13 : decode cX0_init 13 = .ok (.bipush 9, 2) := by decide +kernel
theorem dX0_init_15 : decode cX0_init 15 = .ok (.newarray .int, 2) := by decide +kernel
theorem dX0_init_17 : decode cX0_init 17 = .ok (.putfield 15, 3) := by decide +kernel
theorem dX0_init_20 : decode cX0_init 20 = .ok (.aload_n 0, 1) := by decide +kernel
theorem dX0_init_21 : decode cX0_init 21 = .ok (.iconst 0, 1) := by decide +kernel
theorem dX0_init_22 : decode cX0_init 22 = .ok (.putfield 18, 3) := by decide +kernel
theorem dX0_init_25 : decode cX0_init 25 = .ok (.aload_n 0, 1) := by decide +kernel
theorem dX0_init_26 : decode cX0_init 26 = .ok (.iconst 0, 1) := by decide +kernel
theorem dX0_init_27 : decode cX0_init 27 = .ok (.putfield 22, 3) := by decide +kernel
theorem dX0_init_30 : decode cX0_init 30 = .ok (.aload_n 0, 1) := by decide +kernel
theorem dX0_init_31 : decode cX0_init 31 = .ok (.iconst 0, 1) := by decide +kernel
theorem dX0_init_32 : decode cX0_init 32 = .ok (.putfield 25, 3) := by decide +kernel
theorem dX0_init_35 : decode cX0_init 35 = .ok (.return_, 1) := by decide +kernel
theorem dX1_init_0 : decode cX1_init 0 = .ok (.aload_n 0, 1) := by decide +kernel
theorem dX1_init_1 : decode cX1_init 1 = .ok (.invokespecial 3, 3) := by decide +kernel
theorem dX1_init_4 : decode cX1_init 4 = .ok (.aload_n 0, 1) := by decide +kernel
theorem dX1_init_5 : decode cX1_init 5 = .ok (.bipush 12, 2) := by decide +kernel
theorem dX1_init_7 : decode cX1_init 7 = .ok (.newarray .int, 2) := by decide +kernel
theorem dX1_init_9 : decode cX1_init 9 = .ok (.putfield 9, 3) := by decide +kernel
theorem dX1_init_12 : decode cX1_init 12 = .ok (.aload_n 0, 1) := by decide +kernel
theorem dX1_init_13 : decode cX1_init 13 = .ok (.bipush 12, 2) := by decide +kernel
theorem dX1_init_15 : decode cX1_init 15 = .ok (.anewarray 15, 3) := by decide +kernel
theorem dX1_init_18 : decode cX1_init 18 = .ok (.putfield 17, 3) := by decide +kernel
theorem dX1_init_21 : decode cX1_init 21 = .ok (.aload_n 0, 1) := by decide +kernel
theorem dX1_init_22 : decode cX1_init 22 = .ok (.iconst 0, 1) := by decide +kernel
theorem dX1_init_23 : decode cX1_init 23 = .ok (.putfield 21, 3) := by decide +kernel
theorem dX1_init_26 : decode cX1_init 26 = .ok (.iconst 0, 1) := by decide +kernel
theorem dX1_init_27 : decode cX1_init 27 = .ok (.istore_n 1, 1) := by decide +kernel
theorem dX1_init_28 : decode cX1_init 28 = .ok (.iload_n 1, 1) := by decide +kernel
theorem dX1_init_29 : decode cX1_init 29 = .ok (.bipush 12, 2) := by decide +kernel
theorem dX1_init_31 : decode cX1_init 31 = .ok (.if_icmp .ge 22, 3) := by decide +kernel
theorem dX1_init_34 : decode cX1_init 34 = .ok (.aload_n 0, 1) := by decide +kernel
theorem dX1_init_35 : decode cX1_init 35 = .ok (.getfield 17, 3) := by decide +kernel
theorem dX1_init_38 : decode cX1_init 38 = .ok (.iload_n 1, 1) := by decide +kernel
theorem dX1_init_39 : decode cX1_init 39 = .ok (.new 15, 3) := by decide +kernel
theorem dX1_init_42 : decode cX1_init 42 = .ok (.dup, 1) := by decide +kernel
theorem dX1_init_43 : decode cX1_init 43 = .ok (.invokespecial 25, 3) := by decide +kernel
theorem dX1_init_46 : decode cX1_init 46 = .ok (.aastore, 1) := by decide +kernel
theorem dX1_init_47 : decode cX1_init 47 = .ok (.iinc 1 1, 3) := by decide +kernel
theorem dX1_init_50 : decode cX1_init 50 = .ok (.goto (-22), 3) := by decide +kernel
theorem dX1_init_53 : decode cX1_init 53 = .ok (.return_, 1) := by decide +kernel
theorem dX2_init_0 : decode cX2_init 0 = .ok (.aload_n 0, 1) := by decide +kernel
theorem dX2_init_1 : decode cX2_init 1 = .ok (.invokespecial 3, 3) := by decide +kernel
theorem dX2_init_4 : decode cX2_init 4 = .ok (.aload_n 0, 1) := by decide +kernel
theorem dX2_init_5 : decode cX2_init 5 = .ok (.bipush 24, 2) := by decide +kernel
theorem dX2_init_7 : decode cX2_init 7 = .ok (.newarray .long, 2) := by decide +kernel
theorem dX2_init_9 : decode cX2_init 9 = .ok (.putfield 9, 3) := by decide +kernel
theorem dX2_init_12 : decode cX2_init 12 = .ok (.aload_n 0, 1) := by decide +kernel
theorem dX2_init_13 : decode cX2_init 13 = .ok (.iconst 0, 1) := by decide +kernel
theorem dX2_init_14 : decode cX2_init 14 = .ok (.putfield 15, 3) := by decide +kernel
theorem dX2_init_17 : decode cX2_init 17 = .ok (.aload_n 0, 1) := by decide +kernel
theorem dX2_init_18 : decode cX2_init 18 = .ok (.iconst (-1), 1) := by decide +kernel
theorem dX2_init_19 : decode cX2_init 19 = .ok (.putfield 19, 3) := by decide +kernel
theorem dX2_init_22 : decode cX2_init 22 = .ok (.return_, 1) := by decide +kernel
theorem dX3_init_0 : decode cX3_init 0 = .ok (.aload_n 0, 1) := by decide +kernel
theorem dX3_init_1 : decode cX3_init 1 = .ok (.invokespecial 3, 3) := by decide +kernel
theorem dX3_init_4 : decode cX3_init 4 = .ok (.aload_n 0, 1) := by decide +kernel
theorem dX3_init_5 : decode cX3_init 5 = .ok (.bipush 21, 2) := by decide +kernel
theorem dX3_init_7 : decode cX3_init 7 = .ok (.newarray .int, 2) := by decide +kernel
theorem dX3_init_9 : decode cX3_init 9 = .ok (.putfield 9, 3) := by decide +kernel
theorem dX3_init_12 : decode cX3_init 12 = .ok (.return_, 1) := by decide +kernel
theorem dX4_init_0 : decode cX4_init 0 = .ok (.aload_n 0, 1) := by decide +kernel
theorem dX4_init_1 : decode cX4_init 1 = .ok (.invokespecial 3, 3) := by decide +kernel
theorem dX4_init_4 : decode cX4_init 4 = .ok (.aload_n 0, 1) := by decide +kernel
theorem dX4_init_5 : decode cX4_init 5 = .ok (.new 9, 3) := by decide +kernel
theorem dX4_init_8 : decode cX4_init 8 = .ok (.dup, 1) := by decide +kernel
theorem dX4_init_9 : decode cX4_init 9 = .ok (.invokespecial 11, 3) := by decide +kernel
theorem dX4_init_12 : decode cX4_init 12 = .ok (.putfield 12, 3) := by decide +kernel
theorem dX4_init_15 : decode cX4_init 15 = .ok (.aload_n 0, 1) := by decide +kernel
theorem dX4_init_16 : decode cX4_init 16 = .ok (.new 18, 3) := by decide +kernel
theorem dX4_init_19 : decode cX4_init 19 = .ok (.dup, 1) := by decide +kernel
theorem dX4_init_20 : decode cX4_init 20 = .ok (.invokespecial 20, 3) := by decide +kernel
theorem dX4_init_23 : decode cX4_init 23 = .ok (.putfield 21, 3) := by decide +kernel
theorem dX4_init_26 : decode cX4_init 26 = .ok (.aload_n 0, 1) := by decide +kernel
theorem dX4_init_27 : decode cX4_init 27 = .ok (.new 25, 3) := by decide +kernel
theorem dX4_init_30 : decode cX4_init 30 = .ok (.dup, 1) := by decide +kernel
theorem dX4_init_31 : decode cX4_init 31 = .ok (.invokespecial 27, 3) := by decide +kernel
theorem dX4_init_34 : decode cX4_init 34 = .ok (.putfield 28, 3) := by decide +kernel
theorem dX4_init_37 : decode cX4_init 37 = .ok (.return_, 1) := by decide +kernel
theorem dX5_init_0 : decode cX5_init 0 = .ok (.aload_n 0, 1) := by decide +kernel
theorem dX5_init_1 : decode cX5_init 1 = .ok (.invokespecial 3, 3) := by decide +kernel
theorem dX5_init_4 : decode cX5_init 4 = .ok (.aload_n 0, 1) := by decide +kernel
theorem dX5_init_5 : decode cX5_init 5 = .ok (.bipush 80, 2) := by decide +kernel
theorem dX5_init_7 : decode cX5_init 7 = .ok (.newarray .int, 2) := by decide +kernel
theorem dX5_init_9 : decode cX5_init 9 = .ok (.putfield 9, 3) := by decide +kernel
theorem dX5_init_12 : decode cX5_init 12 = .ok (.aload_n 0, 1) := by decide +kernel
theorem dX5_init_13 : decode cX5_init 13 = .ok (.iconst 0, 1) := by decide +kernel
theorem dX5_init_14 : decode cX5_init 14 = .ok (.putfield 15, 3) := by decide +kernel
theorem dX5_init_17 : decode cX5_init 17 = .ok (.aload_n 0, 1) := by decide +kernel
theorem dX5_init_18 : decode cX5_init 18 = .ok (.iconst 0, 1) := by decide +kernel
theorem dX5_init_19 : decode cX5_init 19 = .ok (.putfield 19, 3) := by decide +kernel
theorem dX5_init_22 : decode cX5_init 22 = .ok (.aload_n 0, 1) := by decide +kernel
theorem dX5_init_23 : decode cX5_init 23 = .ok (.iconst 0, 1) := by decide +kernel
theorem dX5_init_24 : decode cX5_init 24 = .ok (.putfield 22, 3) := by decide +kernel
theorem dX5_init_27 : decode cX5_init 27 = .ok (.return_, 1) := by decide +kernel
theorem dX6_init_0 : decode cX6_init 0 = .ok (.aload_n 0, 1) := by decide +kernel
theorem dX6_init_1 : decode cX6_init 1 = .ok (.invokespecial 3, 3) := by decide +kernel
theorem dX6_init_4 : decode cX6_init 4 = .ok (.aload_n 0, 1) := by decide +kernel
theorem dX6_init_5 : decode cX6_init 5 = .ok (.new 9, 3) := by decide +kernel
theorem dX6_init_8 : decode cX6_init 8 = .ok (.dup, 1) := by decide +kernel
theorem dX6_init_9 : decode cX6_init 9 = .ok (.invokespecial 11, 3) := by decide +kernel
theorem dX6_init_12 : decode cX6_init 12 = .ok (.putfield 12, 3) := by decide +kernel
theorem dX6_init_15 : decode cX6_init 15 = .ok (.aload_n 0, 1) := by decide +kernel
theorem dX6_init_16 : decode cX6_init 16 = .ok (.new 9, 3) := by decide +kernel
theorem dX6_init_19 : decode cX6_init 19 = .ok (.dup, 1) := by decide +kernel
theorem dX6_init_20 : decode cX6_init 20 = .ok (.invokespecial 11, 3) := by decide +kernel
theorem dX6_init_23 : decode cX6_init 23 = .ok (.putfield 16, 3) := by decide +kernel
theorem dX6_init_26 : decode cX6_init 26 = .ok (.aload_n 0, 1) := by decide +kernel
theorem dX6_init_27 : decode cX6_init 27 = .ok (.iconst 0, 1) := by decide +kernel
theorem dX6_init_28 : decode cX6_init 28 = .ok (.putfield 19, 3) := by decide +kernel
theorem dX6_init_31 : decode cX6_init 31 = .ok (.aload_n 0, 1) := by decide +kernel
theorem dX6_init_32 : decode cX6_init 32 = .ok (.new 23, 3) := by decide +kernel
theorem dX6_init_35 : decode cX6_init 35 = .ok (.dup, 1) := by decide +kernel
theorem dX6_init_36 : decode cX6_init 36 = .ok (.invokespecial 25, 3) := by decide +kernel
theorem dX6_init_39 : decode cX6_init 39 = .ok (.putfield 26, 3) := by decide +kernel
theorem dX6_init_42 : decode cX6_init 42 = .ok (.aload_n 0, 1) := by decide +kernel
theorem dX6_init_43 : decode cX6_init 43 = .ok (.new 30, 3) := by decide +kernel
theorem dX6_init_46 : decode cX6_init 46 = .ok (.dup, 1) := by decide +kernel
theorem dX6_init_47 : decode cX6_init 47 = .ok (.invokespecial 32, 3) := by decide +kernel
theorem dX6_init_50 : decode cX6_init 50 = .ok (.putfield 33, 3) := by decide +kernel
theorem dX6_init_53 : decode cX6_init 53 = .ok (.aload_n 0, 1) := by decide +kernel
theorem dX6_init_54 : decode cX6_init 54 = .ok (.new 37, 3) := by decide +kernel
theorem dX6_init_57 : decode cX6_init 57 = .ok (.dup, 1) := by decide +kernel
theorem dX6_init_58 : decode cX6_init 58 = .ok (.invokespecial 39, 3) := by decide +kernel
theorem dX6_init_61 : decode cX6_init 61 = .ok (.putfield 40, 3) := by decide +kernel
theorem dX6_init_64 : decode cX6_init 64 = .ok (.aload_n 0, 1) := by decide +kernel
theorem dX6_init_65 : decode cX6_init 65 = .ok (.iconst 4, 1) := by decide +kernel
theorem dX6_init_66 : decode cX6_init 66 = .ok (.anewarray 44, 3) := by decide +kernel
theorem dX6_init_69 : decode cX6_init 69 = .ok (.putfield 46, 3) := by decide +kernel
theorem dX6_init_72 : decode cX6_init 72 = .ok (.iconst 0, 1) := by decide +kernel
theorem dX6_init_73 : decode cX6_init 73 = .ok (.istore_n 1, 1) := by decide +kernel
theorem dX6_init_74 : decode cX6_init 74 = .ok (.iload_n 1, 1) := by decide +kernel
theorem dX6_init_75 : decode cX6_init 75 = .ok (.iconst 4, 1) := by decide +kernel
theorem dX6_init_76 : decode cX6_init 76 = .ok (.if_icmp .ge 22, 3) := by decide +kernel
theorem dX6_init_79 : decode cX6_init 79 = .ok (.aload_n 0, 1) := by decide +kernel
theorem dX6_init_80 : decode cX6_init 80 = .ok (.getfield 46, 3) := by decide +kernel
theorem dX6_init_83 : decode cX6_init 83 = .ok (.iload_n 1, 1) := by decide +kernel
theorem dX6_init_84 : decode cX6_init 84 = .ok (.new 44, 3) := by decide +kernel
theorem dX6_init_87 : decode cX6_init 87 = .ok (.dup, 1) := by decide +kernel
theorem dX6_init_88 : decode cX6_init 88 = .ok (.invokespecial 50, 3) := by decide +kernel
theorem dX6_init_91 : decode cX6_init 91 = .ok (.aastore, 1) := by decide +kernel
theorem dX6_init_92 : decode cX6_init 92 = .ok (.iinc 1 1, 3) := by decide +kernel
theorem dX6_init_95 : decode cX6_init 95 = .ok (.goto (-21), 3) := by decide +kernel
theorem dX6_init_98 : decode cX6_init 98 = .ok (.return_, 1) := by decide +kernel
theorem dX7_init_0 : decode cX7_init 0 = .ok (.aload_n 0, 1) := by decide +kernel
theorem dX7_init_1 : decode cX7_init 1 = .ok (.invokespecial 1, 3) := by decide +kernel
theorem dX7_init_4 : decode cX7_init 4 = .ok (.aload_n 0, 1) := by decide +kernel
theorem dX7_init_5 : decode cX7_init 5 = .ok (.bipush 21, 2) := by decide +kernel
theorem dX7_init_7 : decode cX7_init 7 = .ok (.newarray .int, 2) := by decide +kernel
theorem dX7_init_9 : decode cX7_init 9 = .ok (.putfield 7, 3) := by decide +kernel
theorem dX7_init_12 : decode cX7_init 12 = .ok (.aload_n 0, 1) := by decide +kernel
theorem dX7_init_13 : decode cX7_init 13 = .ok (.bipush 9, 2) := by decide +kernel
theorem dX7_init_15 : decode cX7_init 15 = .ok (.newarray .int, 2) := by decide +kernel
theorem dX7_init_17 : decode cX7_init 17 = .ok (.putfield 13, 3) := by decide +kernel
theorem dX7_init_20 : decode cX7_init 20 = .ok (.aload_n 0, 1) := by decide +kernel
theorem dX7_init_21 : decode cX7_init 21 = .ok (.bipush 9, 2) := by decide +kernel
theorem dX7_init_23 : decode cX7_init 23 = .ok (.newarray .int, 2) := by decide +kernel
theorem dX7_init_25 : decode cX7_init 25 = .ok (.putfield 16, 3) := by decide +kernel
theorem dX7_init_28 : decode cX7_init 28 = .ok (.aload_n 0, 1) := by decide +kernel
theorem dX7_init_29 : decode cX7_init 29 = .ok (.iconst 2, 1) := by decide +kernel
theorem dX7_init_30 : decode cX7_init 30 = .ok (.newarray .int, 2) := by decide +kernel
theorem dX7_init_32 : decode cX7_init 32 = .ok (.putfield 19, 3) := by decide +kernel
theorem dX7_init_35 : decode cX7_init 35 = .ok (.aload_n 0, 1) := by decide +kernel
theorem dX7_init_36 : decode cX7_init 36 = .ok (.bipush 12, 2) := by decide +kernel
theorem dX7_init_38 : decode cX7_init 38 = .ok (.newarray .int, 2) := by decide +kernel
theorem dX7_init_40 : decode cX7_init 40 = .ok (.putfield 22, 3) := by decide +kernel
theorem dX7_init_43 : decode cX7_init 43 = .ok (.aload_n 0, 1) := by decide +kernel
theorem dX7_init_44 : decode cX7_init 44 = .ok (.bipush 12, 2) := by decide +kernel
theorem dX7_init_46 : decode cX7_init 46 = .ok (.newarray .int, 2) := by decide +kernel
theorem dX7_init_48 : decode cX7_init 48 = .ok (.putfield 25, 3) := by decide +kernel
theorem dX7_init_51 : decode cX7_init 51 = .ok (.aload_n 0, 1) := by decide +kernel
theorem dX7_init_52 : decode cX7_init 52 = .ok (.bipush 12, 2) := by decide +kernel
theorem dX7_init_54 : decode cX7_init 54 = .ok (.newarray .int, 2) := by decide +kernel
theorem dX7_init_56 : decode cX7_init 56 = .ok (.putfield 28, 3) := by decide +kernel
theorem dX7_init_59 : decode cX7_init 59 = .ok (.aload_n 0, 1) := by decide +kernel
theorem dX7_init_60 : decode cX7_init 60 = .ok (.bipush 108, 2) := by decide +kernel
theorem dX7_init_62 : decode cX7_init 62 = .ok (.newarray .int, 2) := by decide +kernel
theorem dX7_init_64 : decode cX7_init 64 = .ok (.putfield 31, 3) := by decide +kernel
theorem dX7_init_67 : decode cX7_init 67 = .ok (.aload_n 0, 1) := by decide +kernel
theorem dX7_init_68 : decode cX7_init 68 = .ok (.bipush 80, 2) := by decide +kernel
theorem dX7_init_70 : decode cX7_init 70 = .ok (.newarray .int, 2) := by decide +kernel
theorem dX7_init_72 : decode cX7_init 72 = .ok (.putfield 34, 3) := by decide +kernel
theorem dX7_init_75 : decode cX7_init 75 = .ok (.aload_n 0, 1) := by decide +kernel
theorem dX7_init_76 : decode cX7_init 76 = .ok (.bipush 21, 2) := by decide +kernel
theorem dX7_init_78 : decode cX7_init 78 = .ok (.newarray .int, 2) := by decide +kernel
theorem dX7_init_80 : decode cX7_init 80 = .ok (.putfield 37, 3) := by decide +kernel
theorem dX7_init_83 : decode cX7_init 83 = .ok (.aload_n 0, 1) := by decide +kernel
theorem dX7_init_84 : decode cX7_init 84 = .ok (.sipush 185, 3) := by decide +kernel
theorem dX7_init_87 : decode cX7_init 87 = .ok (.newarray .int, 2) := by decide +kernel
theorem dX7_init_89 : decode cX7_init 89 = .ok (.putfield 40, 3) := by decide +kernel
theorem dX7_init_92 : decode cX7_init 92 = .ok (.aload_n 0, 1) := by decide +kernel
theorem dX7_init_93 : decode cX7_init 93 = .ok (.iconst 4, 1) := by decide +kernel
theorem dX7_init_94 : decode cX7_init 94 = .ok (.newarray .int, 2) := by decide +kernel
theorem dX7_init_96 : decode cX7_init 96 = .ok (.putfield 43, 3) := by decide +kernel
theorem dX7_init_99 : decode cX7_init 99 = .ok (.aload_n 0, 1) := by decide +kernel
theorem dX7_init_100 : decode cX7_init 100 = .ok (.iconst 4, 1) := by decide +kernel
theorem dX7_init_101 : decode cX7_init 101 = .ok (.newarray .int, 2) := by decide +kernel
theorem dX7_init_103 : decode cX7_init 103 = .ok (.putfield 46, 3) := by decide +kernel
theorem dX7_init_106 : decode cX7_init 106 = .ok (.aload_n 0, 1) := by decide +kernel
theorem dX7_init_107 : decode cX7_init 107 = .ok (.bipush 96, 2) := by decide +kernel
theorem dX7_init_109 : decode cX7_init 109 = .ok (.newarray .long, 2) := by decide +kernel
theorem dX7_init_111 : decode cX7_init 111 = .ok (.putfield 49, 3) := by decide +kernel
theorem dX7_init_114 : decode cX7_init 114 = .ok (.iconst 0, 1) := by decide +kernel
theorem dX7_init_115 : decode cX7_init 115 = .ok (.istore_n 1, 1) := by decide +kernel
theorem dX7_init_116 : decode cX7_init 116 = .ok (.iload_n 1, 1) := by decide +kernel
theorem dX7_init_117 : decode cX7_init 117 = .ok (.iconst 4, 1) := by decide +kernel
theorem dX7_init_118 : decode cX7_init 118 = .ok (.if_icmp .ge 16, 3) := by decide +kernel
theorem dX7_init_121 : decode cX7_init 121 = .ok (.aload_n 0, 1) := by decide +kernel
theorem dX7_init_122 : decode cX7_init 122 = .ok (.getfield 43, 3) := by decide +kernel
theorem dX7_init_125 : decode cX7_init 125 = .ok (.iload_n 1, 1) := by decide +kernel
theorem dX7_init_126 : decode cX7_init 126 = .ok (.iconst (-1), 1) := by decide +kernel
theorem dX7_init_127 : decode cX7_init 127 = .ok (.iastore, 1) := by decide +kernel
theorem dX7_init_128 : decode cX7_init 128 = .ok (.iinc 1 1, 3) := by decide +kernel
theorem dX7_init_131 : decode cX7_init 131 = .ok (.goto (-15), 3) := by decide +kernel
theorem dX7_init_134 : decode cX7_init 134 = .ok (.return_, 1) := by decide +kernel
theorem yI_Co : zyI yX0_init cX0_init 1 := ⟨⟨by decide +kernel, by decide +kernel, by decide +kernel⟩, z_mem 52 (by decide +kernel) (by decide +kernel), z_mem 89 (by decide +kernel) (by decide +kernel), z_mem 88 (by decide +kernel) (by decide +kernel), rfl⟩
theorem yI_Ni : zyI yX1_init cX1_init 2 := ⟨⟨by decide +kernel, by decide +kernel, by decide +kernel⟩, z_mem 53 (by decide +kernel) (by decide +kernel), z_mem 111 (by decide +kernel) (by decide +kernel), z_mem 110 (by decide +kernel) (by decide +kernel), rfl⟩
theorem yI_Sh : zyI yX2_init cX2_init 1 := ⟨⟨by decide +kernel, by decide +kernel, by decide +kernel⟩, z_mem 55 (by decide +kernel) (by decide +kernel), z_mem 167 (by decide +kernel) (by decide +kernel), z_mem 166 (by decide +kernel) (by decide +kernel), rfl⟩
theorem yI_Su : zyI yX3_init cX3_init 1 := ⟨⟨by decide +kernel, by decide +kernel, by decide +kernel⟩, z_mem 51 (by decide +kernel) (by decide +kernel), z_mem 78 (by decide +kernel) (by decide +kernel), z_mem 77 (by decide +kernel) (by decide +kernel), rfl⟩
theorem yI_Ta : zyI yX4_init cX4_init 1 := ⟨⟨by decide +kernel, by decide +kernel, by decide +kernel⟩, z_mem 50 (by decide +kernel) (by decide +kernel), z_mem 72 (by decide +kernel) (by decide +kernel), z_mem 71 (by decide +kernel) (by decide +kernel), rfl⟩
theorem yI_Tp : zyI yX5_init cX5_init 1 := ⟨⟨by decide +kernel, by decide +kernel, by decide +kernel⟩, z_mem 54 (by decide +kernel) (by decide +kernel), z_mem 143 (by decide +kernel) (by decide +kernel), z_mem 142 (by decide +kernel) (by decide +kernel), rfl⟩
theorem yI_Fp : zyI yX6_init cX6_init 2 := ⟨⟨by decide +kernel, by decide +kernel, by decide +kernel⟩, z_mem 49 (by decide +kernel) (by decide +kernel), z_mem 64 (by decide +kernel) (by decide +kernel), z_mem 63 (by decide +kernel) (by decide +kernel), rfl⟩
theorem yI_Mo : zyI yX7_init cX7_init 2 := ⟨⟨by decide +kernel, by decide +kernel, by decide +kernel⟩, z_mem 56 (by decide +kernel) (by decide +kernel), z_mem 718 (by decide +kernel) (by decide +kernel), z_mem 717 (by decide +kernel) (by decide +kernel), rfl⟩
set_option maxHeartbeats 4000000 in
set_option maxRecDepth 100000 in
theorem c_Co_init : zInit yX0_init cX0_init 1 1 12 2 18 0 [.null, .null, .int 0, .int 0, .int 0] (wCo (fun _ => 0) (fun _ => 0) 0 0 0) := by
  intro l D cA h0 sz
  refine Met.ofW (cc := cX0_init) (maxL := 1) (ret := none) (by decide +kernel) rfl ?_
  intro p e s m args below meth c s₁ B hml hv
  obtain ⟨rfl, hsz, hP, hK, hN, hO, hD0⟩ := hv
  have hx := B.exec
  have hb := B.bytes
  have hr := B.returns
  have hts0 := atoms_spec (ws := Cond.code yX0_init cX0_init 1 none :: z_tbl) B.pre
  have hts : ∀ w ∈ z_tbl, w.before ([.ref h0] : List Value).toArray s = true := fun w hw => hts0 w (List.mem_cons_of_mem _ hw)
  have hown : s.vm.findClass RX0 = some m.cls := findClass_of_methodNamed B.named
  have hlocks := B.notSynchronized
  have hin : meth.name = "<init>" := (name_of_methodNamed B.named B.method).1
  subst hsz
  have hD := hD0.self (sz := s.heap.size)
  generalize hAe : va_A [(h0, .inr (0, [.null, .null, .int 0, .int 0, .int 0]))] s.heap.size = A at hD ⊢
  have hA : ∀ q : Nat, s.heap.size ≤ q → A q := fun q h => by rw [← hAe]; exact Or.inr h
  have hS : va_S A s.heap s.heap [] := va_S.rf
  have hP : va_P D classes [(h0, .inr (0, [.null, .null, .int 0, .int 0, .int 0]))] s.heap := hP
  have hl := lv_entry ([.ref h0]) (n := 1) (Nat.le_of_ble_eq_true rfl)
  rw [lg_entry_eq]
  generalize (lg_sl ([.ref h0]) ++ List.replicate (1 - (lg_sl ([.ref h0])).length) Slot.unset).toArray = ls at hl ⊢
  have hl : lv_has ls 1 [(0, .ref h0)] := hl
  refine lv_aload_n hx hb dX0_init_0 rfl (lv_at hl 0 rfl) ?_
  refine W.objInit hx hb hown (hts (.methodLink RX0 3 objectInit) (z_mem 90 (by decide +kernel) (by decide +kernel))) (hts (.instanceMethod objectInit) (z_mem 66 (by decide +kernel) (by decide +kernel))) (hts (.code objectInit ⟨#[0xb1]⟩ 1 none) (z_mem 67 (by decide +kernel) (by decide +kernel))) rfl (by rw [hml]; exact hl.1) rfl dX0_init_1 (Nat.le_of_ble_eq_true rfl) (Nat.le_of_ble_eq_true rfl) ?_
  refine W.eq (g2 := F0 m 4 ls []) rfl ?_
  refine lv_aload_n hx hb dX0_init_4 rfl (lv_at hl 0 rfl) ?_
  refine lv_bipush (v := 9) hx hb dX0_init_5 (by decide) ?_
  refine z_newI hx hb hts hK hP hD hS hA (N := 9) (by decide) (by decide) (Nat.le_of_ble_eq_true rfl) (Nat.le_of_ble_eq_true rfl) (Nat.le_of_ble_eq_true rfl) dX0_init_7 (fun q1 H hP hD hS => ?_)
  refine W.widen (k := 1) (n := 9) (Nat.le_of_ble_eq_true rfl) (Nat.le_of_ble_eq_true rfl) ?_
  have hP : va_P D classes ([(h0, .inr (0, [.null, .null, .int 0, .int 0, .int 0])), (q1, .inl (cA 0, (9, .inl (fun _ => 0))))]) H := hP
  have hD : va_D A ([(h0, .inr (0, [.null, .null, .int 0, .int 0, .int 0])), (q1, .inl (cA 0, (9, .inl (fun _ => 0))))]) := hD
  refine va_putF (D := D) (ci := 0) (v := (.ref q1)) (ty := (.array .int)) (C := RX0) (T := TX0) (N := 5) hx hb hts izX0 tyX0 tyX0_ok nmX0 hown hK hP hD hS 0 rfl rfl 0 (by decide) (hts (.fieldLink RX0 9 "FarthestPays$Company" "kinds" "[I") (z_mem 91 (by decide +kernel) (by decide +kernel))) (fun _ h9 => h9) rfl hin rfl (by decide +kernel) rfl rfl (Nat.le_of_ble_eq_true rfl) dX0_init_9 (fun H locs hP hD hS => ?_)
  have hP : va_P D classes ([(h0, .inr (0, [(.ref q1), .null, .int 0, .int 0, .int 0])), (q1, .inl (cA 0, (9, .inl (fun _ => 0))))]) H := hP
  have hD : va_D A ([(h0, .inr (0, [(.ref q1), .null, .int 0, .int 0, .int 0])), (q1, .inl (cA 0, (9, .inl (fun _ => 0))))]) := hD
  refine lv_aload_n hx hb dX0_init_12 rfl (lv_at hl 0 rfl) ?_
  refine lv_bipush (v := 9) hx hb dX0_init_13 (by decide) ?_
  refine z_newI hx hb hts hK hP hD hS hA (N := 9) (by decide) (by decide) (Nat.le_of_ble_eq_true rfl) (Nat.le_of_ble_eq_true rfl) (Nat.le_of_ble_eq_true rfl) dX0_init_15 (fun q2 H hP hD hS => ?_)
  refine W.widen (k := 2) (n := 18) (Nat.le_of_ble_eq_true rfl) (Nat.le_of_ble_eq_true rfl) ?_
  have hP : va_P D classes ([(h0, .inr (0, [(.ref q1), .null, .int 0, .int 0, .int 0])), (q1, .inl (cA 0, (9, .inl (fun _ => 0)))), (q2, .inl (cA 0, (9, .inl (fun _ => 0))))]) H := hP
  have hD : va_D A ([(h0, .inr (0, [(.ref q1), .null, .int 0, .int 0, .int 0])), (q1, .inl (cA 0, (9, .inl (fun _ => 0)))), (q2, .inl (cA 0, (9, .inl (fun _ => 0))))]) := hD
  refine va_putF (D := D) (ci := 0) (v := (.ref q2)) (ty := (.array .int)) (C := RX0) (T := TX0) (N := 5) hx hb hts izX0 tyX0 tyX0_ok nmX0 hown hK hP hD hS 0 rfl rfl 1 (by decide) (hts (.fieldLink RX0 15 "FarthestPays$Company" "slips" "[I") (z_mem 92 (by decide +kernel) (by decide +kernel))) (fun _ h9 => h9) rfl hin rfl (by decide +kernel) rfl rfl (Nat.le_of_ble_eq_true rfl) dX0_init_17 (fun H locs hP hD hS => ?_)
  have hP : va_P D classes ([(h0, .inr (0, [(.ref q1), (.ref q2), .int 0, .int 0, .int 0])), (q1, .inl (cA 0, (9, .inl (fun _ => 0)))), (q2, .inl (cA 0, (9, .inl (fun _ => 0))))]) H := hP
  have hD : va_D A ([(h0, .inr (0, [(.ref q1), (.ref q2), .int 0, .int 0, .int 0])), (q1, .inl (cA 0, (9, .inl (fun _ => 0)))), (q2, .inl (cA 0, (9, .inl (fun _ => 0))))]) := hD
  refine lv_aload_n hx hb dX0_init_20 rfl (lv_at hl 0 rfl) ?_
  refine lv_iconst (v := 0) hx hb dX0_init_21 (by decide) ?_
  refine va_put (D := D) (ci := 0) (v := (.int 0)) (ty := .int) (C := RX0) (T := TX0) (N := 5) hx hb hts izX0 tyX0 tyX0_ok nmX0 hown hK hP hD hS 0 rfl rfl 2 (by decide) (hts (.fieldLink RX0 18 "FarthestPays$Company" "size" "I") (z_mem 93 (by decide +kernel) (by decide +kernel))) (fun _ h9 => h9) rfl (by decide +kernel) rfl rfl (Nat.le_of_ble_eq_true rfl) dX0_init_22 (fun H locs hP hD hS => ?_)
  have hP : va_P D classes ([(h0, .inr (0, [(.ref q1), (.ref q2), (.int 0), .int 0, .int 0])), (q1, .inl (cA 0, (9, .inl (fun _ => 0)))), (q2, .inl (cA 0, (9, .inl (fun _ => 0))))]) H := hP
  have hD : va_D A ([(h0, .inr (0, [(.ref q1), (.ref q2), (.int 0), .int 0, .int 0])), (q1, .inl (cA 0, (9, .inl (fun _ => 0)))), (q2, .inl (cA 0, (9, .inl (fun _ => 0))))]) := hD
  refine lv_aload_n hx hb dX0_init_25 rfl (lv_at hl 0 rfl) ?_
  refine lv_iconst (v := 0) hx hb dX0_init_26 (by decide) ?_
  refine va_put (D := D) (ci := 0) (v := (.int 0)) (ty := .int) (C := RX0) (T := TX0) (N := 5) hx hb hts izX0 tyX0 tyX0_ok nmX0 hown hK hP hD hS 0 rfl rfl 3 (by decide) (hts (.fieldLink RX0 22 "FarthestPays$Company" "who" "I") (z_mem 94 (by decide +kernel) (by decide +kernel))) (fun _ h9 => h9) rfl (by decide +kernel) rfl rfl (Nat.le_of_ble_eq_true rfl) dX0_init_27 (fun H locs hP hD hS => ?_)
  have hP : va_P D classes ([(h0, .inr (0, [(.ref q1), (.ref q2), (.int 0), (.int 0), .int 0])), (q1, .inl (cA 0, (9, .inl (fun _ => 0)))), (q2, .inl (cA 0, (9, .inl (fun _ => 0))))]) H := hP
  have hD : va_D A ([(h0, .inr (0, [(.ref q1), (.ref q2), (.int 0), (.int 0), .int 0])), (q1, .inl (cA 0, (9, .inl (fun _ => 0)))), (q2, .inl (cA 0, (9, .inl (fun _ => 0))))]) := hD
  refine lv_aload_n hx hb dX0_init_30 rfl (lv_at hl 0 rfl) ?_
  refine lv_iconst (v := 0) hx hb dX0_init_31 (by decide) ?_
  refine va_put (D := D) (ci := 0) (v := (.int 0)) (ty := .int) (C := RX0) (T := TX0) (N := 5) hx hb hts izX0 tyX0 tyX0_ok nmX0 hown hK hP hD hS 0 rfl rfl 4 (by decide) (hts (.fieldLink RX0 25 "FarthestPays$Company" "ties" "I") (z_mem 95 (by decide +kernel) (by decide +kernel))) (fun _ h9 => h9) rfl (by decide +kernel) rfl rfl (Nat.le_of_ble_eq_true rfl) dX0_init_32 (fun H locs hP hD hS => ?_)
  have hP : va_P D classes ([(h0, .inr (0, [(.ref q1), (.ref q2), (.int 0), (.int 0), (.int 0)])), (q1, .inl (cA 0, (9, .inl (fun _ => 0)))), (q2, .inl (cA 0, (9, .inl (fun _ => 0))))]) H := hP
  have hD : va_D A ([(h0, .inr (0, [(.ref q1), (.ref q2), (.int 0), (.int 0), (.int 0)])), (q1, .inl (cA 0, (9, .inl (fun _ => 0)))), (q2, .inl (cA 0, (9, .inl (fun _ => 0))))]) := hD
  have hP9 : va_P D classes (z_wr (fun k => match k with | 0 => h0 | 1 => q1 | _ => q2) cA 0 (wCo (fun _ => 0) (fun _ => 0) 0 0 0)) H := hP
  have hD9 : va_D A (z_wr (fun k => match k with | 0 => h0 | 1 => q1 | _ => q2) cA 0 (wCo (fun _ => 0) (fun _ => 0) 0 0 0)) := hD
  exact W.vret hx hb hr (fun t ht hW => ⟨⟨(fun k => match k with | 0 => h0 | 1 => q1 | _ => q2), rfl, trivial, rfl, by rw [ht]; exact hP9, hD9⟩, hS.F ht⟩) hS.2.2 dX0_init_35
set_option maxHeartbeats 4000000 in
set_option maxRecDepth 100000 in
theorem c_Su_init : zInit yX3_init cX3_init 1 1 12 1 21 3 [.null] (wSu (fun _ => 0)) := by
  intro l D cA h0 sz
  refine Met.ofW (cc := cX3_init) (maxL := 1) (ret := none) (by decide +kernel) rfl ?_
  intro p e s m args below meth c s₁ B hml hv
  obtain ⟨rfl, hsz, hP, hK, hN, hO, hD0⟩ := hv
  have hx := B.exec
  have hb := B.bytes
  have hr := B.returns
  have hts0 := atoms_spec (ws := Cond.code yX3_init cX3_init 1 none :: z_tbl) B.pre
  have hts : ∀ w ∈ z_tbl, w.before ([.ref h0] : List Value).toArray s = true := fun w hw => hts0 w (List.mem_cons_of_mem _ hw)
  have hown : s.vm.findClass RX3 = some m.cls := findClass_of_methodNamed B.named
  have hlocks := B.notSynchronized
  have hin : meth.name = "<init>" := (name_of_methodNamed B.named B.method).1
  subst hsz
  have hD := hD0.self (sz := s.heap.size)
  generalize hAe : va_A [(h0, .inr (3, [.null]))] s.heap.size = A at hD ⊢
  have hA : ∀ q : Nat, s.heap.size ≤ q → A q := fun q h => by rw [← hAe]; exact Or.inr h
  have hS : va_S A s.heap s.heap [] := va_S.rf
  have hP : va_P D classes [(h0, .inr (3, [.null]))] s.heap := hP
  have hl := lv_entry ([.ref h0]) (n := 1) (Nat.le_of_ble_eq_true rfl)
  rw [lg_entry_eq]
  generalize (lg_sl ([.ref h0]) ++ List.replicate (1 - (lg_sl ([.ref h0])).length) Slot.unset).toArray = ls at hl ⊢
  have hl : lv_has ls 1 [(0, .ref h0)] := hl
  refine lv_aload_n hx hb dX3_init_0 rfl (lv_at hl 0 rfl) ?_
  refine W.objInit hx hb hown (hts (.methodLink RX3 3 objectInit) (z_mem 79 (by decide +kernel) (by decide +kernel))) (hts (.instanceMethod objectInit) (z_mem 66 (by decide +kernel) (by decide +kernel))) (hts (.code objectInit ⟨#[0xb1]⟩ 1 none) (z_mem 67 (by decide +kernel) (by decide +kernel))) rfl (by rw [hml]; exact hl.1) rfl dX3_init_1 (Nat.le_of_ble_eq_true rfl) (Nat.le_of_ble_eq_true rfl) ?_
  refine W.eq (g2 := F0 m 4 ls []) rfl ?_
  refine lv_aload_n hx hb dX3_init_4 rfl (lv_at hl 0 rfl) ?_
  refine lv_bipush (v := 21) hx hb dX3_init_5 (by decide) ?_
  refine z_newI hx hb hts hK hP hD hS hA (N := 21) (by decide) (by decide) (Nat.le_of_ble_eq_true rfl) (Nat.le_of_ble_eq_true rfl) (Nat.le_of_ble_eq_true rfl) dX3_init_7 (fun q1 H hP hD hS => ?_)
  refine W.widen (k := 1) (n := 21) (Nat.le_of_ble_eq_true rfl) (Nat.le_of_ble_eq_true rfl) ?_
  have hP : va_P D classes ([(h0, .inr (3, [.null])), (q1, .inl (cA 0, (21, .inl (fun _ => 0))))]) H := hP
  have hD : va_D A ([(h0, .inr (3, [.null])), (q1, .inl (cA 0, (21, .inl (fun _ => 0))))]) := hD
  refine va_putF (D := D) (ci := 3) (v := (.ref q1)) (ty := (.array .int)) (C := RX3) (T := TX3) (N := 1) hx hb hts izX3 tyX3 tyX3_ok nmX3 hown hK hP hD hS 0 rfl rfl 0 (by decide) (hts (.fieldLink RX3 9 "FarthestPays$Supper" "weights" "[I") (z_mem 80 (by decide +kernel) (by decide +kernel))) (fun _ h9 => h9) rfl hin rfl (by decide +kernel) rfl rfl (Nat.le_of_ble_eq_true rfl) dX3_init_9 (fun H locs hP hD hS => ?_)
  have hP : va_P D classes ([(h0, .inr (3, [(.ref q1)])), (q1, .inl (cA 0, (21, .inl (fun _ => 0))))]) H := hP
  have hD : va_D A ([(h0, .inr (3, [(.ref q1)])), (q1, .inl (cA 0, (21, .inl (fun _ => 0))))]) := hD
  have hP9 : va_P D classes (z_wr (fun k => match k with | 0 => h0 | _ => q1) cA 0 (wSu (fun _ => 0))) H := hP
  have hD9 : va_D A (z_wr (fun k => match k with | 0 => h0 | _ => q1) cA 0 (wSu (fun _ => 0))) := hD
  exact W.vret hx hb hr (fun t ht hW => ⟨⟨(fun k => match k with | 0 => h0 | _ => q1), rfl, trivial, rfl, by rw [ht]; exact hP9, hD9⟩, hS.F ht⟩) hS.2.2 dX3_init_12
set_option maxHeartbeats 4000000 in
set_option maxRecDepth 100000 in
theorem c_Sh_init : zInit yX2_init cX2_init 1 1 12 1 24 2 [.null, .int 0, .int 0] (wSh (fun _ => 0) 0 (-1)) := by
  intro l D cA h0 sz
  refine Met.ofW (cc := cX2_init) (maxL := 1) (ret := none) (by decide +kernel) rfl ?_
  intro p e s m args below meth c s₁ B hml hv
  obtain ⟨rfl, hsz, hP, hK, hN, hO, hD0⟩ := hv
  have hx := B.exec
  have hb := B.bytes
  have hr := B.returns
  have hts0 := atoms_spec (ws := Cond.code yX2_init cX2_init 1 none :: z_tbl) B.pre
  have hts : ∀ w ∈ z_tbl, w.before ([.ref h0] : List Value).toArray s = true := fun w hw => hts0 w (List.mem_cons_of_mem _ hw)
  have hown : s.vm.findClass RX2 = some m.cls := findClass_of_methodNamed B.named
  have hlocks := B.notSynchronized
  have hin : meth.name = "<init>" := (name_of_methodNamed B.named B.method).1
  subst hsz
  have hD := hD0.self (sz := s.heap.size)
  generalize hAe : va_A [(h0, .inr (2, [.null, .int 0, .int 0]))] s.heap.size = A at hD ⊢
  have hA : ∀ q : Nat, s.heap.size ≤ q → A q := fun q h => by rw [← hAe]; exact Or.inr h
  have hS : va_S A s.heap s.heap [] := va_S.rf
  have hP : va_P D classes [(h0, .inr (2, [.null, .int 0, .int 0]))] s.heap := hP
  have hl := lv_entry ([.ref h0]) (n := 1) (Nat.le_of_ble_eq_true rfl)
  rw [lg_entry_eq]
  generalize (lg_sl ([.ref h0]) ++ List.replicate (1 - (lg_sl ([.ref h0])).length) Slot.unset).toArray = ls at hl ⊢
  have hl : lv_has ls 1 [(0, .ref h0)] := hl
  refine lv_aload_n hx hb dX2_init_0 rfl (lv_at hl 0 rfl) ?_
  refine W.objInit hx hb hown (hts (.methodLink RX2 3 objectInit) (z_mem 168 (by decide +kernel) (by decide +kernel))) (hts (.instanceMethod objectInit) (z_mem 66 (by decide +kernel) (by decide +kernel))) (hts (.code objectInit ⟨#[0xb1]⟩ 1 none) (z_mem 67 (by decide +kernel) (by decide +kernel))) rfl (by rw [hml]; exact hl.1) rfl dX2_init_1 (Nat.le_of_ble_eq_true rfl) (Nat.le_of_ble_eq_true rfl) ?_
  refine W.eq (g2 := F0 m 4 ls []) rfl ?_
  refine lv_aload_n hx hb dX2_init_4 rfl (lv_at hl 0 rfl) ?_
  refine lv_bipush (v := 24) hx hb dX2_init_5 (by decide) ?_
  refine z_newJ hx hb hts hK hP hD hS hA (N := 24) (by decide) (by decide) (Nat.le_of_ble_eq_true rfl) (Nat.le_of_ble_eq_true rfl) (Nat.le_of_ble_eq_true rfl) dX2_init_7 (fun q1 H hP hD hS => ?_)
  refine W.widen (k := 1) (n := 24) (Nat.le_of_ble_eq_true rfl) (Nat.le_of_ble_eq_true rfl) ?_
  have hP : va_P D classes ([(h0, .inr (2, [.null, .int 0, .int 0])), (q1, .inl (cA 1, (24, .inr (.inl (fun _ => 0)))))]) H := hP
  have hD : va_D A ([(h0, .inr (2, [.null, .int 0, .int 0])), (q1, .inl (cA 1, (24, .inr (.inl (fun _ => 0)))))]) := hD
  refine va_putF (D := D) (ci := 2) (v := (.ref q1)) (ty := (.array .long)) (C := RX2) (T := TX2) (N := 3) hx hb hts izX2 tyX2 tyX2_ok nmX2 hown hK hP hD hS 0 rfl rfl 0 (by decide) (hts (.fieldLink RX2 9 "FarthestPays$Sheet" "items" "[J") (z_mem 169 (by decide +kernel) (by decide +kernel))) (fun _ h9 => h9) rfl hin rfl (by decide +kernel) rfl rfl (Nat.le_of_ble_eq_true rfl) dX2_init_9 (fun H locs hP hD hS => ?_)
  have hP : va_P D classes ([(h0, .inr (2, [(.ref q1), .int 0, .int 0])), (q1, .inl (cA 1, (24, .inr (.inl (fun _ => 0)))))]) H := hP
  have hD : va_D A ([(h0, .inr (2, [(.ref q1), .int 0, .int 0])), (q1, .inl (cA 1, (24, .inr (.inl (fun _ => 0)))))]) := hD
  refine lv_aload_n hx hb dX2_init_12 rfl (lv_at hl 0 rfl) ?_
  refine lv_iconst (v := 0) hx hb dX2_init_13 (by decide) ?_
  refine va_put (D := D) (ci := 2) (v := (.int 0)) (ty := .int) (C := RX2) (T := TX2) (N := 3) hx hb hts izX2 tyX2 tyX2_ok nmX2 hown hK hP hD hS 0 rfl rfl 1 (by decide) (hts (.fieldLink RX2 15 "FarthestPays$Sheet" "lane" "I") (z_mem 170 (by decide +kernel) (by decide +kernel))) (fun _ h9 => h9) rfl (by decide +kernel) rfl rfl (Nat.le_of_ble_eq_true rfl) dX2_init_14 (fun H locs hP hD hS => ?_)
  have hP : va_P D classes ([(h0, .inr (2, [(.ref q1), (.int 0), .int 0])), (q1, .inl (cA 1, (24, .inr (.inl (fun _ => 0)))))]) H := hP
  have hD : va_D A ([(h0, .inr (2, [(.ref q1), (.int 0), .int 0])), (q1, .inl (cA 1, (24, .inr (.inl (fun _ => 0)))))]) := hD
  refine lv_aload_n hx hb dX2_init_17 rfl (lv_at hl 0 rfl) ?_
  refine lv_iconst (v := (-1)) hx hb dX2_init_18 (by decide) ?_
  refine va_put (D := D) (ci := 2) (v := (.int (-1))) (ty := .int) (C := RX2) (T := TX2) (N := 3) hx hb hts izX2 tyX2 tyX2_ok nmX2 hown hK hP hD hS 0 rfl rfl 2 (by decide) (hts (.fieldLink RX2 19 "FarthestPays$Sheet" "size" "I") (z_mem 171 (by decide +kernel) (by decide +kernel))) (fun _ h9 => h9) rfl (by decide +kernel) rfl rfl (Nat.le_of_ble_eq_true rfl) dX2_init_19 (fun H locs hP hD hS => ?_)
  have hP : va_P D classes ([(h0, .inr (2, [(.ref q1), (.int 0), (.int (-1))])), (q1, .inl (cA 1, (24, .inr (.inl (fun _ => 0)))))]) H := hP
  have hD : va_D A ([(h0, .inr (2, [(.ref q1), (.int 0), (.int (-1))])), (q1, .inl (cA 1, (24, .inr (.inl (fun _ => 0)))))]) := hD
  have hP9 : va_P D classes (z_wr (fun k => match k with | 0 => h0 | _ => q1) cA 0 (wSh (fun _ => 0) 0 (-1))) H := hP
  have hD9 : va_D A (z_wr (fun k => match k with | 0 => h0 | _ => q1) cA 0 (wSh (fun _ => 0) 0 (-1))) := hD
  exact W.vret hx hb hr (fun t ht hW => ⟨⟨(fun k => match k with | 0 => h0 | _ => q1), rfl, trivial, rfl, by rw [ht]; exact hP9, hD9⟩, hS.F ht⟩) hS.2.2 dX2_init_22
set_option maxHeartbeats 4000000 in
set_option maxRecDepth 100000 in
theorem c_Tp_init : zInit yX5_init cX5_init 1 1 12 1 80 5 [.null, .int 0, .int 0, .int 0] (wTp (fun _ => 0) 0 0 0) := by
  intro l D cA h0 sz
  refine Met.ofW (cc := cX5_init) (maxL := 1) (ret := none) (by decide +kernel) rfl ?_
  intro p e s m args below meth c s₁ B hml hv
  obtain ⟨rfl, hsz, hP, hK, hN, hO, hD0⟩ := hv
  have hx := B.exec
  have hb := B.bytes
  have hr := B.returns
  have hts0 := atoms_spec (ws := Cond.code yX5_init cX5_init 1 none :: z_tbl) B.pre
  have hts : ∀ w ∈ z_tbl, w.before ([.ref h0] : List Value).toArray s = true := fun w hw => hts0 w (List.mem_cons_of_mem _ hw)
  have hown : s.vm.findClass RX5 = some m.cls := findClass_of_methodNamed B.named
  have hlocks := B.notSynchronized
  have hin : meth.name = "<init>" := (name_of_methodNamed B.named B.method).1
  subst hsz
  have hD := hD0.self (sz := s.heap.size)
  generalize hAe : va_A [(h0, .inr (5, [.null, .int 0, .int 0, .int 0]))] s.heap.size = A at hD ⊢
  have hA : ∀ q : Nat, s.heap.size ≤ q → A q := fun q h => by rw [← hAe]; exact Or.inr h
  have hS : va_S A s.heap s.heap [] := va_S.rf
  have hP : va_P D classes [(h0, .inr (5, [.null, .int 0, .int 0, .int 0]))] s.heap := hP
  have hl := lv_entry ([.ref h0]) (n := 1) (Nat.le_of_ble_eq_true rfl)
  rw [lg_entry_eq]
  generalize (lg_sl ([.ref h0]) ++ List.replicate (1 - (lg_sl ([.ref h0])).length) Slot.unset).toArray = ls at hl ⊢
  have hl : lv_has ls 1 [(0, .ref h0)] := hl
  refine lv_aload_n hx hb dX5_init_0 rfl (lv_at hl 0 rfl) ?_
  refine W.objInit hx hb hown (hts (.methodLink RX5 3 objectInit) (z_mem 144 (by decide +kernel) (by decide +kernel))) (hts (.instanceMethod objectInit) (z_mem 66 (by decide +kernel) (by decide +kernel))) (hts (.code objectInit ⟨#[0xb1]⟩ 1 none) (z_mem 67 (by decide +kernel) (by decide +kernel))) rfl (by rw [hml]; exact hl.1) rfl dX5_init_1 (Nat.le_of_ble_eq_true rfl) (Nat.le_of_ble_eq_true rfl) ?_
  refine W.eq (g2 := F0 m 4 ls []) rfl ?_
  refine lv_aload_n hx hb dX5_init_4 rfl (lv_at hl 0 rfl) ?_
  refine lv_bipush (v := 80) hx hb dX5_init_5 (by decide) ?_
  refine z_newI hx hb hts hK hP hD hS hA (N := 80) (by decide) (by decide) (Nat.le_of_ble_eq_true rfl) (Nat.le_of_ble_eq_true rfl) (Nat.le_of_ble_eq_true rfl) dX5_init_7 (fun q1 H hP hD hS => ?_)
  refine W.widen (k := 1) (n := 80) (Nat.le_of_ble_eq_true rfl) (Nat.le_of_ble_eq_true rfl) ?_
  have hP : va_P D classes ([(h0, .inr (5, [.null, .int 0, .int 0, .int 0])), (q1, .inl (cA 0, (80, .inl (fun _ => 0))))]) H := hP
  have hD : va_D A ([(h0, .inr (5, [.null, .int 0, .int 0, .int 0])), (q1, .inl (cA 0, (80, .inl (fun _ => 0))))]) := hD
  refine va_putF (D := D) (ci := 5) (v := (.ref q1)) (ty := (.array .int)) (C := RX5) (T := TX5) (N := 4) hx hb hts izX5 tyX5 tyX5_ok nmX5 hown hK hP hD hS 0 rfl rfl 0 (by decide) (hts (.fieldLink RX5 9 "FarthestPays$Tape" "bytes" "[I") (z_mem 145 (by decide +kernel) (by decide +kernel))) (fun _ h9 => h9) rfl hin rfl (by decide +kernel) rfl rfl (Nat.le_of_ble_eq_true rfl) dX5_init_9 (fun H locs hP hD hS => ?_)
  have hP : va_P D classes ([(h0, .inr (5, [(.ref q1), .int 0, .int 0, .int 0])), (q1, .inl (cA 0, (80, .inl (fun _ => 0))))]) H := hP
  have hD : va_D A ([(h0, .inr (5, [(.ref q1), .int 0, .int 0, .int 0])), (q1, .inl (cA 0, (80, .inl (fun _ => 0))))]) := hD
  refine lv_aload_n hx hb dX5_init_12 rfl (lv_at hl 0 rfl) ?_
  refine lv_iconst (v := 0) hx hb dX5_init_13 (by decide) ?_
  refine va_put (D := D) (ci := 5) (v := (.int 0)) (ty := .int) (C := RX5) (T := TX5) (N := 4) hx hb hts izX5 tyX5 tyX5_ok nmX5 hown hK hP hD hS 0 rfl rfl 1 (by decide) (hts (.fieldLink RX5 15 "FarthestPays$Tape" "size" "I") (z_mem 146 (by decide +kernel) (by decide +kernel))) (fun _ h9 => h9) rfl (by decide +kernel) rfl rfl (Nat.le_of_ble_eq_true rfl) dX5_init_14 (fun H locs hP hD hS => ?_)
  have hP : va_P D classes ([(h0, .inr (5, [(.ref q1), (.int 0), .int 0, .int 0])), (q1, .inl (cA 0, (80, .inl (fun _ => 0))))]) H := hP
  have hD : va_D A ([(h0, .inr (5, [(.ref q1), (.int 0), .int 0, .int 0])), (q1, .inl (cA 0, (80, .inl (fun _ => 0))))]) := hD
  refine lv_aload_n hx hb dX5_init_17 rfl (lv_at hl 0 rfl) ?_
  refine lv_iconst (v := 0) hx hb dX5_init_18 (by decide) ?_
  refine va_put (D := D) (ci := 5) (v := (.int 0)) (ty := .int) (C := RX5) (T := TX5) (N := 4) hx hb hts izX5 tyX5 tyX5_ok nmX5 hown hK hP hD hS 0 rfl rfl 2 (by decide) (hts (.fieldLink RX5 19 "FarthestPays$Tape" "at" "I") (z_mem 147 (by decide +kernel) (by decide +kernel))) (fun _ h9 => h9) rfl (by decide +kernel) rfl rfl (Nat.le_of_ble_eq_true rfl) dX5_init_19 (fun H locs hP hD hS => ?_)
  have hP : va_P D classes ([(h0, .inr (5, [(.ref q1), (.int 0), (.int 0), .int 0])), (q1, .inl (cA 0, (80, .inl (fun _ => 0))))]) H := hP
  have hD : va_D A ([(h0, .inr (5, [(.ref q1), (.int 0), (.int 0), .int 0])), (q1, .inl (cA 0, (80, .inl (fun _ => 0))))]) := hD
  refine lv_aload_n hx hb dX5_init_22 rfl (lv_at hl 0 rfl) ?_
  refine lv_iconst (v := 0) hx hb dX5_init_23 (by decide) ?_
  refine va_put (D := D) (ci := 5) (v := (.int 0)) (ty := .int) (C := RX5) (T := TX5) (N := 4) hx hb hts izX5 tyX5 tyX5_ok nmX5 hown hK hP hD hS 0 rfl rfl 3 (by decide) (hts (.fieldLink RX5 22 "FarthestPays$Tape" "fault" "I") (z_mem 148 (by decide +kernel) (by decide +kernel))) (fun _ h9 => h9) rfl (by decide +kernel) rfl rfl (Nat.le_of_ble_eq_true rfl) dX5_init_24 (fun H locs hP hD hS => ?_)
  have hP : va_P D classes ([(h0, .inr (5, [(.ref q1), (.int 0), (.int 0), (.int 0)])), (q1, .inl (cA 0, (80, .inl (fun _ => 0))))]) H := hP
  have hD : va_D A ([(h0, .inr (5, [(.ref q1), (.int 0), (.int 0), (.int 0)])), (q1, .inl (cA 0, (80, .inl (fun _ => 0))))]) := hD
  have hP9 : va_P D classes (z_wr (fun k => match k with | 0 => h0 | _ => q1) cA 0 (wTp (fun _ => 0) 0 0 0)) H := hP
  have hD9 : va_D A (z_wr (fun k => match k with | 0 => h0 | _ => q1) cA 0 (wTp (fun _ => 0) 0 0 0)) := hD
  exact W.vret hx hb hr (fun t ht hW => ⟨⟨(fun k => match k with | 0 => h0 | _ => q1), rfl, trivial, rfl, by rw [ht]; exact hP9, hD9⟩, hS.F ht⟩) hS.2.2 dX5_init_27
