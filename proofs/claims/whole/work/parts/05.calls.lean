/-! CONTRACTS over the abstract machine -/
abbrev zM : Type := MethodName × (ByteArray × (Nat × (Option FieldType × (Nat × Nat))))
def z_rm (y : zM) : Room := { frames := y.2.2.2.2.1, cells := 0, slots := 0, locals := y.2.2.2.2.2 }
def z_ws (y : zM) : List Cond := Cond.code y.1 y.2.1 y.2.2.1 y.2.2.2.1 :: z_tbl
def z_Pre (D : va_G) (cA : Nat → ClassId) (ad : Nat → Nat) (w : zW) (sz : Nat) : State → Prop := fun U => U.heap.size = sz ∧ va_P D classes (z_w ad cA w) U.heap ∧ va_K D classes (z_t cA) U ∧ z_N U ∧ va_D (fun _ => True) (z_w ad cA w)
def z_Qc (D : va_G) (cA : Nat → ClassId) (ad : Nat → Nat) (w : zW) (sz : Nat) (P : Option zV → zW → Prop) : Array Value → State → Outcome → State → Prop := fun _ st oc t => (∃ (v : Option zV) (w' : zW), oc = .returned (v.map (z_v ad)) ∧ P v w' ∧ w'.length = w.length ∧ va_P D classes (z_w ad cA w') t.heap) ∧ va_F (va_A (z_w ad cA w) sz) st t
/-- from the arguments A over the cells w the method ends with an answer and cells that P has; nothing else changes, nothing is made -/
def zMet (y : zM) (A : List zV) (w : zW) (P : Option zV → zW → Prop) : Prop := ∀ (l : Launch) (D : va_G) (cA : Nat → ClassId) (ad : Nat → Nat) (sz : Nat),
  Met l y.1 (z_ws y) (z_rm y) (va_Pc (A.map (z_v ad)) (z_Pre D cA ad w sz)) (z_Qc D cA ad w sz P) 0 0 (va_A (z_w ad cA w) sz)
-- places of a callee's cells among the caller's
def z_pl : List Nat → Nat → Nat
  | [], k => k
  | [a], k => a + k
  | a :: _ :: _, 0 => a
  | _ :: b :: l, k + 1 => z_pl (b :: l) k
def z_rv (π : List Nat) : zV → zV
  | .inl x => .inl x
  | .inr (.inl x) => .inr (.inl x)
  | .inr (.inr k) => .inr (.inr (z_pl π k))
def z_ren (π : List Nat) : zC → zC
  | .inl o => .inl (o.1, o.2.map (z_rv π))
  | .inr (t, (n, .inl f)) => .inr (t, (n, .inl f))
  | .inr (t, (n, .inr (.inl f))) => .inr (t, (n, .inr (.inl f)))
  | .inr (t, (n, .inr (.inr f))) => .inr (t, (n, .inr (.inr (fun j => z_pl π (f j)))))
def z_sct (π : List Nat) : List Nat → zW → zW → zW
  | p :: ps, c :: cs, ws => z_sct π ps cs (z_s ws p (z_ren π c))
  | _, _, ws => ws
def z_catsum : List zV → Nat
  | [] => 0
  | v :: r => (bif z_isL v then 2 else 1) + z_catsum r
theorem z_catsum_eq (ad : Nat → Nat) : ∀ r : List zV, ((r.map (z_v ad)).map fun v => v.category).sum = z_catsum r
  | [] => rfl
  | v :: r => by
    simp only [List.map_cons, List.sum_cons, z_catsum]
    rw [← z_catsum_eq ad r]
    rcases v with x | x | x <;> rfl
theorem z_pl_get : ∀ {π : List Nat} {k p : Nat}, π[k]? = some p → z_pl π k = p
  | [], k, p, h => by simp at h
  | [a], 0, p, h => by simpa [z_pl] using h
  | [a], k + 1, p, h => by simp at h
  | a :: b :: l, 0, p, h => by simpa [z_pl] using h
  | a :: b :: l, k + 1, p, h => by
    show z_pl (b :: l) k = p
    exact z_pl_get (π := b :: l) (k := k) (by simpa using h)
theorem z_pl_range : ∀ (n a k : Nat), z_pl (List.range' a (n + 1)) k = a + k
  | 0, a, k => rfl
  | n + 1, a, 0 => rfl
  | n + 1, a, k + 1 => by
    show z_pl (List.range' (a + 1) (n + 1)) k = _
    rw [z_pl_range n (a + 1) k]; omega
theorem z_v_ren (ad : Nat → Nat) (π : List Nat) (v : zV) : z_v ad (z_rv π v) = z_v (fun k => ad (z_pl π k)) v := by
  rcases v with x | x | x <;> rfl
theorem z_e_ren (ad : Nat → Nat) (cA : Nat → ClassId) (π : List Nat) (c : zC) : z_e ad cA (z_ren π c) = z_e (fun k => ad (z_pl π k)) cA c := by
  rcases c with ⟨ci, fs⟩ | ⟨t, n, f | f | f⟩
  · show Sum.inr (ci, (fs.map (z_rv π)).map (z_v ad)) = Sum.inr (ci, fs.map (z_v fun k => ad (z_pl π k)))
    rw [List.map_map]
    congr 2
    exact List.map_congr_left fun v _ => z_v_ren ad π v
  · rfl
  · rfl
  · rfl
theorem z_sct_len (π : List Nat) : ∀ (ps : List Nat) (cs ws : zW), (z_sct π ps cs ws).length = ws.length
  | [], cs, ws => by cases cs <;> rfl
  | p :: ps, [], ws => rfl
  | p :: ps, c :: cs, ws => by rw [z_sct, z_sct_len π ps cs, z_s_len]
theorem z_sct_out (π : List Nat) : ∀ (ps : List Nat) (cs ws : zW) (k : Nat), k ∉ ps → (z_sct π ps cs ws)[k]? = ws[k]?
  | [], cs, ws, k, _ => by cases cs <;> rfl
  | p :: ps, [], ws, k, _ => rfl
  | p :: ps, c :: cs, ws, k, h => by
    rw [z_sct, z_sct_out π ps cs _ k (fun q => h (List.mem_cons_of_mem _ q)), z_s_eq, List.getElem?_set_ne]
    exact fun e => h (e ▸ List.mem_cons_self)
theorem z_sct_in (π : List Nat) : ∀ (ps : List Nat) (cs ws : zW) (j p : Nat) (c : zC), ps.Nodup → (∀ q ∈ ps, q < ws.length) → ps[j]? = some p → cs[j]? = some c → (z_sct π ps cs ws)[p]? = some (z_ren π c)
  | [], cs, ws, j, p, c, _, _, h, _ => by simp at h
  | q :: ps, [], ws, j, p, c, _, _, _, h => by simp at h
  | q :: ps, d :: cs, ws, 0, p, c, hn, hl, h1, h2 => by
    have e1 : q = p := by simpa using h1
    have e2 : d = c := by simpa using h2
    subst e1; subst e2
    rw [z_sct, z_sct_out π ps cs _ q (List.nodup_cons.mp hn).1, z_s_eq, List.getElem?_set_self]
    exact hl q List.mem_cons_self
  | q :: ps, d :: cs, ws, j + 1, p, c, hn, hl, h1, h2 => by
    rw [z_sct]
    exact z_sct_in π ps cs _ j p c (List.nodup_cons.mp hn).2 (fun r hr => by rw [z_s_len]; exact hl r (List.mem_cons_of_mem _ hr)) (by simpa using h1) (by simpa using h2)
def z_yB (y : zM) (n : Nat) : Prop := (y.1.cls ≠ "java/lang/invoke/MethodHandle" ∧ y.1.cls ≠ "java/lang/invoke/VarHandle" ∧ (parseMethodDescriptor y.1.desc).map (fun d => d.parameters.length) = some n) ∧ Cond.initialized y.1.cls ∈ z_tbl ∧ Cond.code y.1 y.2.1 y.2.2.1 y.2.2.2.1 ∈ z_tbl
def z_yV (y : zM) (n ci : Nat) : Prop := z_yB y n ∧ Cond.instanceMethod y.1 ∈ z_tbl ∧ Cond.selects y.1.cls y.1 y.1 ∈ z_tbl ∧ ∃ (T : u_T) (N : Nat), classes[ci]? = some (y.1.cls, T, N)
def z_yS (y : zM) (n : Nat) : Prop := z_yB y n ∧ Cond.static y.1 ∈ z_tbl
def z_lk1 (own : String) (i : Nat) (y : MethodName) : Prop := Cond.methodLink own i y ∈ z_tbl ∨ ∃ host, Cond.methodLinkNest own i y host ∈ z_nest
theorem z_blind (av : List Value) (D : va_G) (cA : Nat → ClassId) (ad : Nat → Nat) (w : zW) (sz : Nat) : FrameBlind (va_Pc av (z_Pre D cA ad w sz)) := fun a U g mk q => by
  obtain ⟨q0, q1, qP, qK, qN, qD⟩ := q
  exact ⟨q0, q1, qP, va_K.moved (u := U) (U := U.calling g mk a) (Vm.Alike.refl U.vm) qK, z_N_same (u := U) (U := U.calling g mk a) rfl qN, qD⟩
theorem z_goodIn {y : zM} (hc : Cond.code y.1 y.2.1 y.2.2.1 y.2.2.2.1 ∈ z_tbl) : GoodIn z_tbl (z_ws y) := fun w hw => by
  rcases List.mem_cons.mp hw with rfl | hw
  · exact z_good _ hc
  · exact z_good _ hw
/-- behind any call: out of the callee's run -/
theorem z_back {p : Program} {l : Launch} {e : Env} {R : Room} {s : State} {m : MethodId} {args : Array Value} {below : List Frame} {meth : Method} {c : Code} {cells slots : Nat} {Q : State → Prop} {cc : ByteArray} {own : String} {D : va_G} {cA : Nat → ClassId} {ad : Nat → Nat} {A : Nat → Prop} {n0 nL : Nat} {sc : Option (Nat × (Int → Int))}
    (X : z_X p s m args c cc own D cA ad A n0 nL sc) {w' : zW} {P' : Option zV → zW → Prop} {π : List Nat} (hnd : π.Nodup) {ws : zW} (hw : π.map (z_g ws) = w'.map (fun c => some (z_ren π c)))
    {H : Heap} {locs : List Loc} {pc : Nat} {ls : zL} {ls' : Array Slot} {st0 : List Value} {rest : List zV} {av : Array Value} (hlen : ws.length = n0) (hP : va_P D classes (z_w ad cA ws) H) (hS : va_S A s.heap H locs) (hl : lv_has ls' nL (z_l ad ls))
    (run : va_Run p l e R s m args below meth c H locs cells slots 0 0 (F0 m pc ls' st0) (rest.map (z_v ad)) (z_Qc D cA (fun k => ad (z_pl π k)) w' H.size P' av) (va_A (z_w (fun k => ad (z_pl π k)) cA w') H.size))
    (kk : ∀ v w2, P' v w2 → w2.length = w'.length → z_G p l e R s m args below meth c cells slots Q D cA ad A n0 nL (pc + 3) ls ((v.map (z_rv π)).toList ++ rest) (z_sct π π w2 ws)) : W p l e R s m args below meth c H locs cells slots Q (F0 m pc ls' st0) := by
  obtain ⟨hx, hb, hml, hown, hts, hK, hN, hinj, hAd, hA0, hsc⟩ := X
  have hwl : π.length = w'.length := by
    have := congrArg List.length hw
    simpa using this
  have at0 : ∀ (k : Nat) (c : zC), w'[k]? = some c → ∃ p, π[k]? = some p ∧ ws[p]? = some (z_ren π c) := by
    intro k c hk
    have h1 : (π.map (z_g ws))[k]? = some (some (z_ren π c)) := by rw [hw, List.getElem?_map, hk]; rfl
    rw [List.getElem?_map] at h1
    cases hp : π[k]? with
    | none => rw [hp] at h1; cases h1
    | some p => rw [hp] at h1; exact ⟨p, rfl, by rw [← z_g_eq]; exact Option.some.inj h1⟩
  have hpl : ∀ q ∈ π, q < ws.length := by
    intro q hq
    obtain ⟨k, hk⟩ := List.getElem?_of_mem hq
    have hk2 : k < w'.length := hwl ▸ (List.getElem?_eq_some_iff.mp hk).1
    obtain ⟨p, h1, h2⟩ := at0 k w'[k] (List.getElem?_eq_getElem hk2)
    rw [hk] at h1
    cases h1
    exact (List.getElem?_eq_some_iff.mp h2).1
  have hlt : ∀ k : Nat, k < n0 → ad k < H.size := by
    intro k hk
    have h1 : ws[k]? = some (ws[k]'(hlen ▸ hk)) := List.getElem?_eq_getElem (hlen ▸ hk)
    have h2 := hP k _ (z_w_at (ad := ad) (cA := cA) (by rw [z_g_eq]; exact h1))
    exact h2.lt
  have inC : ∀ q : Nat, va_A (z_w (fun k => ad (z_pl π k)) cA w') H.size q → (∃ (k p : Nat), π[k]? = some p ∧ q = ad p) ∨ H.size ≤ q := by
    intro q h
    rcases h with ⟨k, e, h⟩ | h
    · rw [z_w_get] at h
      cases hc : w'[k]? with
      | none => rw [hc] at h; cases h
      | some c =>
        rw [hc] at h
        obtain ⟨p, h1, -⟩ := at0 k c hc
        have := Option.some.inj h
        have h2 := congrArg Prod.fst this
        dsimp only at h2
        exact Or.inl ⟨k, p, h1, by rw [← h2, z_pl_get h1]⟩
    · exact Or.inr h
  have hF : ∀ q : Nat, va_A (z_w (fun k => ad (z_pl π k)) cA w') H.size q → A q := by
    intro q h
    rcases inC q h with ⟨k, p, h1, rfl⟩ | h
    · exact hAd p (hlen ▸ hpl p (List.mem_of_getElem? h1))
    · exact hA0 q (Nat.le_trans hS.1 h)
  intro T hT X
  obtain ⟨v, st₀, t, T', L, h0, X', hL, e1, e2, ⟨⟨v', w2, hv, hp, hl2, hP2⟩, hz, hk⟩, st⟩ := run T hT X
  rw [h0] at hz hk
  have hv' : v = v'.map (z_v fun k => ad (z_pl π k)) := by cases hv; rfl
  subst hv'
  have hP3 : va_P D classes (z_w ad cA (z_sct π π w2 ws)) T'.heap := by
    intro k q hq
    rw [z_w_get] at hq
    cases hc : (z_sct π π w2 ws)[k]? with
    | none => rw [hc] at hq; cases hq
    | some c =>
      rw [hc] at hq
      have := Option.some.inj hq
      subst this
      have hkn : k < n0 := by
        have := (List.getElem?_eq_some_iff.mp hc).1
        rw [z_sct_len] at this
        exact hlen ▸ this
      by_cases hin : k ∈ π
      · obtain ⟨j, hj⟩ := List.getElem?_of_mem hin
        have hj2 : j < w2.length := by rw [hl2, ← hwl]; exact (List.getElem?_eq_some_iff.mp hj).1
        have h4 := z_sct_in π π w2 ws j k w2[j] hnd hpl hj (List.getElem?_eq_getElem hj2)
        rw [hc] at h4
        have h5 := Option.some.inj h4
        subst h5
        have h6 := hP2 j _ (z_w_at (ad := fun k => ad (z_pl π k)) (cA := cA) (by rw [z_g_eq]; exact List.getElem?_eq_getElem hj2))
        rw [e1]
        show va_at D classes (ad k, z_e ad cA (z_ren π w2[j])) t.heap
        rw [z_e_ren]
        rw [z_pl_get hj] at h6
        exact h6
      · rw [z_sct_out π π w2 ws k hin] at hc
        have h4 := hP k _ (z_w_at (ad := ad) (cA := cA) (by rw [z_g_eq]; exact hc))
        refine h4.kept ?_
        dsimp only
        rw [e1]
        refine hk (ad k) (hlt k hkn) (fun h => ?_)
        rcases inC _ h with ⟨j, p, h5, h6⟩ | h
        · have h7 := hinj k p hkn (hlen ▸ hpl p (List.mem_of_getElem? h5)) h6
          exact hin (h7 ▸ List.mem_of_getElem? h5)
        · exact absurd (hlt k hkn) (by omega)
  have hS3 : va_S A s.heap T'.heap (locs ++ L) := ⟨Nat.le_trans hS.1 (by rw [e1]; exact hz), fun q h1 h2 => by rw [e1, hk q (Nat.lt_of_lt_of_le h1 hS.1) (fun z => h2 (hF q z))]; exact hS.2.1 q h1 h2, fun q hq => by
      rcases List.mem_append.mp hq with h | h
      · exact hS.2.2 q h
      · exact hF _ (hL q h)⟩
  have hst : ((v'.map (z_rv π)).toList ++ rest).map (z_v ad) = (v'.map (z_v fun k => ad (z_pl π k))).toList ++ rest.map (z_v ad) := by
    cases v' with
    | none => rfl
    | some v => simp [z_v_ren]
  have h8 := kk v' w2 hp hl2 (by rw [z_sct_len]; exact hlen) T'.heap (locs ++ L) ls' hP3 hS3 hl
  rw [hst] at h8
  obtain ⟨t2, a1, b1⟩ := h8 T' rfl X'
  exact ⟨t2, st t2 a1, b1⟩
theorem z_pre {p : Program} {l : Launch} {e : Env} {R : Room} {s : State} {m : MethodId} {args : Array Value} {below : List Frame} {meth : Method} {c : Code} {cells slots : Nat} {Q : State → Prop} {cc : ByteArray} {own : String} {D : va_G} {cA : Nat → ClassId} {ad : Nat → Nat} {A : Nat → Prop} {n0 nL : Nat} {sc : Option (Nat × (Int → Int))}
    (X : z_X p s m args c cc own D cA ad A n0 nL sc) {w' : zW} {π : List Nat} (hnd : π.Nodup) {ws : zW} (hw : π.map (z_g ws) = w'.map (fun c => some (z_ren π c)))
    {H : Heap} (hlen : ws.length = n0) (hP : va_P D classes (z_w ad cA ws) H) : va_P D classes (z_w (fun k => ad (z_pl π k)) cA w') H ∧ va_D (fun _ => True) (z_w (fun k => ad (z_pl π k)) cA w') := by
  obtain ⟨hx, hb, hml, hown, hts, hK, hN, hinj, hAd, hA0, hsc⟩ := X
  have hwl : π.length = w'.length := by
    have := congrArg List.length hw
    simpa using this
  have at0 : ∀ (k : Nat) (c : zC), w'[k]? = some c → ∃ p, π[k]? = some p ∧ ws[p]? = some (z_ren π c) := by
    intro k c hk
    have h1 : (π.map (z_g ws))[k]? = some (some (z_ren π c)) := by rw [hw, List.getElem?_map, hk]; rfl
    rw [List.getElem?_map] at h1
    cases hp : π[k]? with
    | none => rw [hp] at h1; cases h1
    | some p => rw [hp] at h1; exact ⟨p, rfl, by rw [← z_g_eq]; exact Option.some.inj h1⟩
  have atπ : ∀ k : Nat, k < w'.length → ∃ p, π[k]? = some p ∧ p < n0 := by
    intro k hk
    obtain ⟨p, h1, h2⟩ := at0 k w'[k] (List.getElem?_eq_getElem hk)
    exact ⟨p, h1, hlen ▸ (List.getElem?_eq_some_iff.mp h2).1⟩
  refine ⟨fun k q hq => ?_, z_D rfl (fun i j hi hj h => ?_) (fun _ _ => trivial)⟩
  · rw [z_w_get] at hq
    cases hc : w'[k]? with
    | none => rw [hc] at hq; cases hq
    | some c =>
      rw [hc] at hq
      have := Option.some.inj hq
      subst this
      obtain ⟨p, h1, h2⟩ := at0 k c hc
      have h4 := hP p _ (z_w_at (ad := ad) (cA := cA) (by rw [z_g_eq]; exact h2))
      rw [z_e_ren] at h4
      rw [z_pl_get h1]
      exact h4
  · obtain ⟨p, a1, a2⟩ := atπ i hi
    obtain ⟨q, b1, b2⟩ := atπ j hj
    rw [z_pl_get a1, z_pl_get b1] at h
    have h1 := hinj p q a2 b2 h
    subst h1
    exact (List.getElem?_inj (by rw [hwl]; exact hi) hnd).mp (a1.trans b1.symm)
theorem z_nx {cc : ByteArray} {nL : Nat} {tb : List (Nat × zI)} (h : tb.all (z_ent cc nL) = true) {pc : Nat} {q : zI} (hq : z_a tb pc = some q) (hi : (∃ i, q.1 = .invokevirtual i) ∨ (∃ i, q.1 = .invokestatic i) ∨ ∃ i, q.1 = .invokespecial i) : decode cc pc = .ok (q.1, 3) ∧ q.2.1 = pc + 3 := by
  obtain ⟨len, hd, hnx, hc⟩ := z_ent_spec h hq
  have : len = 3 := by
    rcases hi with ⟨i, hi⟩ | ⟨i, hi⟩ | ⟨i, hi⟩ <;> rw [hi] at hc <;> exact Nat.eq_of_beq_eq_true hc
  subst this
  exact ⟨hd, hnx⟩
theorem z_callV {p : Program} {l : Launch} {e : Env} {R : Room} {s : State} {m : MethodId} {args : Array Value} {below : List Frame} {meth : Method} {c : Code} {cells slots : Nat} {Q : State → Prop} {cc : ByteArray} {own : String} {D : va_G} {cA : Nat → ClassId} {ad : Nat → Nat} {A : Nat → Prop} {n0 nL : Nat} {sc : Option (Nat × (Int → Int))}
    (X : z_X p s m args c cc own D cA ad A n0 nL sc) {tb : List (Nat × zI)} (htb : tb.all (z_ent cc nL) = true) (hcr : cells ≤ R.cells ∧ slots ≤ R.slots)
    {y' : zM} {k0 : Nat} {As : List zV} {w' : zW} {P' : Option zV → zW → Prop} (hM : zMet y' (.inr (.inr k0) :: As) w' P') {n ci i : Nat} (hy : z_yV y' n ci) (hlk : Cond.methodLink own i y'.1 ∈ z_tbl)
    (hroom : y'.2.2.2.2.1 + 1 ≤ R.frames ∧ 8 + (y'.2.2.1 + 11) + y'.2.2.2.2.2 ≤ R.locals) (hn : As.length = n) {fs : List zV} (hk : z_g w' k0 = some (.inl (ci, fs)))
    (π : List Nat) (hnd : π.Nodup) {ws : zW} (hw : π.map (z_g ws) = w'.map (fun c => some (z_ren π c))) {pc nx : Nat} {ps : List Nat} {ls : zL} {st rest : List zV} (hpc : z_a tb pc = some (.invokevirtual i, (nx, ps)))
    (hst : st = (As.map (z_rv π)).reverse ++ .inr (.inr (z_pl π k0)) :: rest) (hcat : z_catsum rest ≤ 8)
    (kk : ∀ v w2, P' v w2 → w2.length = w'.length → z_G p l e R s m args below meth c cells slots Q D cA ad A n0 nL nx ls ((v.map (z_rv π)).toList ++ rest) (z_sct π π w2 ws)) : z_G p l e R s m args below meth c cells slots Q D cA ad A n0 nL pc ls st ws := by
  obtain ⟨hd, hnx⟩ := z_nx htb hpc (Or.inl ⟨i, rfl⟩)
  dsimp only at hd hnx
  subst hnx; subst hst
  intro hlen H locs ls' hP hS hl
  obtain ⟨hPc, hDc⟩ := z_pre (l := l) (e := e) (R := R) (below := below) (meth := meth) (cells := cells) (slots := slots) (Q := Q) X hnd hw hlen hP
  have X2 := X
  obtain ⟨hx, hb, hml, hown, hts, hK, hN, hinj, hAd, hA0, hsc⟩ := X2
  obtain ⟨⟨hy1, hy2, hy3⟩, hy4, hy5, T0, N0, hy6⟩ := hy
  have hrec := va_recv hK hPc hy6 (z_w_at (ad := fun k => ad (z_pl π k)) (cA := cA) hk)
  have hs1 : ((((As.map (z_rv π)).reverse ++ .inr (.inr (z_pl π k0)) :: rest)).map (z_v ad)) = (As.map (z_v fun k => ad (z_pl π k))).reverse ++ .ref (ad (z_pl π k0)) :: rest.map (z_v ad) := by
    rw [List.map_append, List.map_cons, List.map_reverse, List.map_map]
    have : As.map (z_v ad ∘ z_rv π) = As.map (z_v fun k => ad (z_pl π k)) := List.map_congr_left fun v _ => z_v_ren ad π v
    rw [this]; rfl
  rw [hs1]
  refine z_back X hnd hw hlen hP hS hl (av := ((.ref (ad (z_pl π k0)) : Value) :: As.map (z_v fun k => ad (z_pl π k))).toArray) ?_ kk
  exact va_runV ⟨hx, hb, hml, hown, hts⟩ (hM l D cA (fun k => ad (z_pl π k)) H.size) (index := i) (bytes := y'.2.1) (maxL := y'.2.2.1) (ret := y'.2.2.2.1) (n := n)
    ⟨callB_of n hts (z_goodIn hy3) rfl rfl rfl (hts _ hy2) (hts _ hlk) hy1 hroom, hts _ hy4, hts _ hy5⟩
    ⟨z_blind _ _ _ _ _ _, hrec, fun U hU hW => ⟨rfl, by rw [hU], by rw [hU]; exact hPc, va_K.moved hW.alike hK, z_N_warm hW hN, hDc⟩⟩ rfl (by simpa using hn) hl.1 rfl (lv_room (by rw [z_catsum_eq]; exact hcat)) hd ⟨by omega, by omega⟩
theorem z_callS {p : Program} {l : Launch} {e : Env} {R : Room} {s : State} {m : MethodId} {args : Array Value} {below : List Frame} {meth : Method} {c : Code} {cells slots : Nat} {Q : State → Prop} {cc : ByteArray} {own : String} {D : va_G} {cA : Nat → ClassId} {ad : Nat → Nat} {A : Nat → Prop} {n0 nL : Nat} {sc : Option (Nat × (Int → Int))}
    (X : z_X p s m args c cc own D cA ad A n0 nL sc) {tb : List (Nat × zI)} (htb : tb.all (z_ent cc nL) = true) (hcr : cells ≤ R.cells ∧ slots ≤ R.slots)
    {y' : zM} {As : List zV} {w' : zW} {P' : Option zV → zW → Prop} (hM : zMet y' As w' P') {n i : Nat} (hy : z_yS y' n) (hlk : z_lk1 own i y'.1)
    (hroom : y'.2.2.2.2.1 + 1 ≤ R.frames ∧ 8 + (y'.2.2.1 + 11) + y'.2.2.2.2.2 ≤ R.locals) (hn : As.length = n)
    (π : List Nat) (hnd : π.Nodup) {ws : zW} (hw : π.map (z_g ws) = w'.map (fun c => some (z_ren π c))) {pc nx : Nat} {ps : List Nat} {ls : zL} {st rest : List zV} (hpc : z_a tb pc = some (.invokestatic i, (nx, ps)))
    (hst : st = (As.map (z_rv π)).reverse ++ rest) (hcat : z_catsum rest ≤ 8)
    (kk : ∀ v w2, P' v w2 → w2.length = w'.length → z_G p l e R s m args below meth c cells slots Q D cA ad A n0 nL nx ls ((v.map (z_rv π)).toList ++ rest) (z_sct π π w2 ws)) : z_G p l e R s m args below meth c cells slots Q D cA ad A n0 nL pc ls st ws := by
  obtain ⟨hd, hnx⟩ := z_nx htb hpc (Or.inr (Or.inl ⟨i, rfl⟩))
  dsimp only at hd hnx
  subst hnx; subst hst
  intro hlen H locs ls' hP hS hl
  obtain ⟨hPc, hDc⟩ := z_pre (l := l) (e := e) (R := R) (below := below) (meth := meth) (cells := cells) (slots := slots) (Q := Q) X hnd hw hlen hP
  have X2 := X
  obtain ⟨hx, hb, hml, hown, hts, hK, hN, hinj, hAd, hA0, hsc⟩ := X2
  obtain ⟨⟨hy1, hy2, hy3⟩, hy4⟩ := hy
  have hs1 : ((((As.map (z_rv π)).reverse ++ rest)).map (z_v ad)) = (As.map (z_v fun k => ad (z_pl π k))).reverse ++ rest.map (z_v ad) := by
    rw [List.map_append, List.map_reverse, List.map_map]
    have : As.map (z_v ad ∘ z_rv π) = As.map (z_v fun k => ad (z_pl π k)) := List.map_congr_left fun v _ => z_v_ren ad π v
    rw [this]
  rw [hs1]
  have hpS : PreS s H (va_Pc (As.map (z_v fun k => ad (z_pl π k))) (z_Pre D cA (fun k => ad (z_pl π k)) w' H.size)) (As.map (z_v fun k => ad (z_pl π k))) := ⟨z_blind _ _ _ _ _ _, fun U hU hW => ⟨rfl, by rw [hU], by rw [hU]; exact hPc, va_K.moved hW.alike hK, z_N_warm hW hN, hDc⟩⟩
  refine z_back X hnd hw hlen hP hS hl (av := (As.map (z_v fun k => ad (z_pl π k))).toArray) ?_ kk
  rcases hlk with hlk | ⟨host, hlk⟩
  · exact va_runS ⟨hx, hb, hml, hown, hts⟩ (hM l D cA (fun k => ad (z_pl π k)) H.size) (index := i) (bytes := y'.2.1) (maxL := y'.2.2.1) (ret := y'.2.2.2.1) (n := n)
      ⟨callB_of n hts (z_goodIn hy3) rfl rfl rfl (hts _ hy2) (hts _ hlk) hy1 hroom, hts _ hy4⟩
      hpS rfl (by simpa using hn) hl.1 rfl (lv_room (by rw [z_catsum_eq]; exact hcat)) hd ⟨by omega, by omega⟩
  · exact va_runSN ⟨hx, hb, hml, hown, hts⟩ (hM l D cA (fun k => ad (z_pl π k)) H.size) (index := i) (bytes := y'.2.1) (maxL := y'.2.2.1) (ret := y'.2.2.2.1) (n := n) (host := host)
      ⟨va_cnB n hts (z_goodIn hy3) rfl rfl rfl (hN _ hlk) (hts _ hy2) hy1 hroom, hts _ hy4, trivial⟩
      hpS rfl (by simpa using hn) hl.1 rfl (lv_room (by rw [z_catsum_eq]; exact hcat)) hd ⟨by omega, by omega⟩
