/-! SOUNDNESS: the abstract machine against the machine -/
def z_sc (sc : Option (Nat × (Int → Int))) (ad : Nat → Nat) (s : State) (A : Nat → Prop) : Prop := match sc with
  | none => True
  | some b => va_X (ad 9999) b.1 (fun j : Nat => Int32.ofInt (b.2 (j : Int))) s s.heap ∧ ad 9999 < s.heap.size ∧ ¬ A (ad 9999)
def z_X (p : Program) (s : State) (m : MethodId) (args : Array Value) (c : Code) (cc : ByteArray) (own : String) (D : va_G) (cA : Nat → ClassId) (ad : Nat → Nat) (A : Nat → Prop) (n0 nL : Nat) (sc : Option (Nat × (Int → Int))) : Prop :=
  p.tables.exec = Jvm.exec ∧ c.code = cc ∧ c.maxLocals = nL ∧ s.vm.findClass own = some m.cls ∧ (∀ w ∈ z_tbl, w.before args s = true) ∧ va_K D classes (z_t cA) s ∧ z_N s ∧ (∀ i j : Nat, i < n0 → j < n0 → ad i = ad j → i = j) ∧ (∀ k : Nat, k < n0 → A (ad k)) ∧ (∀ q : Nat, s.heap.size ≤ q → A q) ∧ z_sc sc ad s A
def z_G (p : Program) (l : Launch) (e : Env) (R : Room) (s : State) (m : MethodId) (args : Array Value) (below : List Frame) (meth : Method) (c : Code) (cells slots : Nat) (Q : State → Prop) (D : va_G) (cA : Nat → ClassId) (ad : Nat → Nat) (A : Nat → Prop) (n0 nL : Nat) : zG := fun pc ls st ws =>
  ws.length = n0 → ∀ (H : Heap) (locs : List Loc) (ls' : Array Slot), va_P D classes (z_w ad cA ws) H → va_S A s.heap H locs → lv_has ls' nL (z_l ad ls) → W p l e R s m args below meth c H locs cells slots Q (F0 m pc ls' (st.map (z_v ad)))
def z_f1 (own : String) (i : Nat) (t : Nat × (Nat × Nat)) : Prop := ∃ (C : String) (T : u_T) (N : Nat), classes[t.1]? = some (C, T, N) ∧ t.2.1 < N ∧ (∀ w ∈ u_ws C T N, w ∈ z_tbl) ∧ (T t.2.1).1 = C ∧ (Cond.fieldLink own i C (T t.2.1).2.1 (T t.2.1).2.2.1 ∈ z_tbl ∨ ∃ host, Cond.fieldLinkNest own i C (T t.2.1).2.1 (T t.2.1).2.2.1 host ∈ z_nest) ∧
  (t.2.2 ≠ 0 → Cond.fieldLink own i C (T t.2.1).2.1 (T t.2.1).2.2.1 ∈ z_tbl ∧ (T t.2.1).2.2.2 = false ∧ (∃ ty0 : Nat → FieldType, ∀ k, k < N → parseFieldDescriptor (T k).2.2.1 = some (ty0 k)) ∧ (∀ a, a < N → ∀ b, b < N → a ≠ b → (T a).2.1 ≠ (T b).2.1) ∧ ((t.2.2 = 1 ∧ parseFieldDescriptor (T t.2.1).2.2.1 = some .int) ∨ (t.2.2 = 2 ∧ parseFieldDescriptor (T t.2.1).2.2.1 = some .boolean)))
def z_fok (own : String) (ft : List (Nat × (Nat × (Nat × Nat)))) : Prop := ∀ q ∈ ft, z_f1 own q.1 q.2
def z_cok (own : String) (ct : List (Nat × Int) × List (Nat × Int)) : Prop := (∀ q ∈ ct.1, Cond.constant own q.1 (Int32.ofInt q.2) ∈ z_tbl) ∧ ∀ q ∈ ct.2, Cond.constantLong own q.1 (Int64.ofInt q.2) ∈ z_tbl
def z_RR (cc : ByteArray) (Rr : Option zV → zW → Prop) (G : zG) : Prop :=
  (∀ pc ls x ws, decode cc pc = .ok (.ireturn, 1) → Rr (some (.inl x)) ws → G pc ls [.inl x] ws) ∧
  (∀ pc ls x ws, decode cc pc = .ok (.lreturn, 1) → Rr (some (.inr (.inl x))) ws → G pc ls [.inr (.inl x)] ws) ∧
  (∀ pc ls ws, decode cc pc = .ok (.return_, 1) → Rr none ws → G pc ls [] ws)
theorem z_1e {st : List zV} {k : Int → List zV → Prop} (h : z_1 st k) : ∃ x r, st = .inl x :: r ∧ k x r := by
  unfold z_1 at h; split at h
  · exact ⟨_, _, rfl, h⟩
  · exact h.elim
theorem z_2e {st : List zV} {k : Int → Int → List zV → Prop} (h : z_2 st k) : ∃ x y r, st = .inl y :: .inl x :: r ∧ k x y r := by
  unfold z_2 at h; split at h
  · exact ⟨_, _, _, rfl, h⟩
  · exact h.elim
theorem z_L1e {st : List zV} {k : Int → List zV → Prop} (h : z_L1 st k) : ∃ x r, st = .inr (.inl x) :: r ∧ k x r := by
  unfold z_L1 at h; split at h
  · exact ⟨_, _, rfl, h⟩
  · exact h.elim
theorem z_L2e {st : List zV} {k : Int → Int → List zV → Prop} (h : z_L2 st k) : ∃ x y r, st = .inr (.inl y) :: .inr (.inl x) :: r ∧ k x y r := by
  unfold z_L2 at h; split at h
  · exact ⟨_, _, _, rfl, h⟩
  · exact h.elim
theorem z_LIe {st : List zV} {k : Int → Int → List zV → Prop} (h : z_LI st k) : ∃ x y r, st = .inl y :: .inr (.inl x) :: r ∧ k x y r := by
  unfold z_LI at h; split at h
  · exact ⟨_, _, _, rfl, h⟩
  · exact h.elim
theorem z_bif {b : Bool} {P : Prop} (h : bif b then P else False) : b = true ∧ P := by
  cases b
  · exact h.elim
  · exact ⟨rfl, h⟩
theorem z_swlE {K : Nat → Prop} {x : Int} : ∀ {ts : List Nat} {lo : Int}, z_swl K x lo ts → ∀ k : Nat, k < ts.length → x = lo + (k : Int) → ∃ t, ts[k]? = some t ∧ K t
  | [], _, _, k, hk, _ => by simp at hk
  | t :: ts, lo, h, 0, _, hx => ⟨t, rfl, h.1 (by simpa using hx)⟩
  | t :: ts, lo, h, k + 1, hk, hx => by
    obtain ⟨t', h1, h2⟩ := z_swlE h.2 k (by simpa using hk) (by push_cast at hx; omega)
    exact ⟨t', by simpa using h1, h2⟩

set_option maxHeartbeats 4000000 in
theorem z_snd {p : Program} {l : Launch} {e : Env} {R : Room} {s : State} {m : MethodId} {args : Array Value} {below : List Frame} {meth : Method} {c : Code} {cells slots : Nat} {Q : State → Prop} {cc : ByteArray} {own : String} {D : va_G} {cA : Nat → ClassId} {ad : Nat → Nat} {A : Nat → Prop} {n0 nL : Nat} {sc : Option (Nat × (Int → Int))}
    (X : z_X p s m args c cc own D cA ad A n0 nL sc) {tb : List (Nat × zI)} {ft : List (Nat × (Nat × (Nat × Nat)))} {ct : List (Nat × Int) × List (Nat × Int)} {Rr : Option zV → zW → Prop}
    (htb : tb.all (z_ent cc nL) = true) (hft : z_fok own ft) (hct : z_cok own ct) (hR : z_RR cc Rr (z_G p l e R s m args below meth c cells slots Q D cA ad A n0 nL)) {K : zG} (hKG : ∀ pc ls st ws, K pc ls st ws → z_G p l e R s m args below meth c cells slots Q D cA ad A n0 nL pc ls st ws)
    {pc : Nat} {q : zI} (hq : z_a tb pc = some q) {ls : zL} {st : List zV} {ws : zW} (h : z_i tb ft ct sc Rr (z_G p l e R s m args below meth c cells slots Q D cA ad A n0 nL) K pc ls st ws q.2.1 q.2.2 q.1) : z_G p l e R s m args below meth c cells slots Q D cA ad A n0 nL pc ls st ws := by
  obtain ⟨len, hd, hnx, hc⟩ := z_ent_spec htb hq
  obtain ⟨i, nx, ps⟩ := q
  dsimp only at hd hnx hc h
  subst hnx
  obtain ⟨hx, hb, hml, hown, hts, hK, hN, hinj, hAd, hA0, hsc⟩ := X
  have hD : ∀ {ws : zW}, ws.length = n0 → va_D A (z_w ad cA ws) := fun h1 => z_D h1 hinj hAd
  cases i
  case iconst n =>
    obtain rfl := Nat.eq_of_beq_eq_true hc
    intro hlen H locs ls' hP hS hl
    exact lv_iconst hx hb hd rfl (hKG _ _ _ _ h hlen H locs ls' hP hS hl)
  case bipush n =>
    simp only [z_chk, Bool.and_eq_true, decide_eq_true_eq] at hc
    obtain ⟨h1, h2, h3⟩ := hc
    obtain rfl := Nat.eq_of_beq_eq_true h1
    intro hlen H locs ls' hP hS hl
    refine lv_bipush hx hb hd (v := Int32.ofInt n) ?_ (hKG _ _ _ _ h hlen H locs ls' hP hS hl)
    rw [← Int32.toInt_inj, z_R (by omega)]
    show (Int8.ofInt n).toInt32.toInt = n
    rw [Int8.toInt_toInt32, Int8.toInt_ofInt_of_le (by omega) (by omega)]
  case sipush n =>
    simp only [z_chk, Bool.and_eq_true, decide_eq_true_eq] at hc
    obtain ⟨h1, h2, h3⟩ := hc
    obtain rfl := Nat.eq_of_beq_eq_true h1
    intro hlen H locs ls' hP hS hl
    refine lv_sipush hx hb hd (v := Int32.ofInt n) ?_ (hKG _ _ _ _ h hlen H locs ls' hP hS hl)
    rw [← Int32.toInt_inj, z_R (by omega)]
    show (Int16.ofInt n).toInt32.toInt = n
    rw [Int16.toInt_toInt32, Int16.toInt_ofInt_of_le (by omega) (by omega)]
  case lconst n =>
    simp only [z_chk, Bool.and_eq_true] at hc
    obtain ⟨h1, h2, h3⟩ := hc
    obtain rfl := Nat.eq_of_beq_eq_true h1
    have hn := Nat.eq_of_beq_eq_true h2
    intro hlen H locs ls' hP hS hl
    have hn2 := n.isLt
    dsimp only [z_i] at h
    split at h
    · exact lv_lconst hx hb hd (v := Int64.ofInt 0) (by rw [show (n : Nat) = 0 from hn]; rfl) (hKG _ _ _ _ h hlen H locs ls' hP hS hl)
    · rename_i hne
      have e1 : (n : Nat) = 1 := by
        cases ps with
        | nil => simp at h3
        | cons a r =>
          have : (n : Nat) = a := hn
          rcases a with _ | a
          · exact absurd rfl (hne r)
          · omega
      exact lv_lconst hx hb hd (v := Int64.ofInt 1) (by rw [e1]; rfl) (hKG _ _ _ _ h hlen H locs ls' hP hS hl)
  case ldc i =>
    obtain rfl := Nat.eq_of_beq_eq_true hc
    intro hlen H locs ls' hP hS hl
    dsimp only [z_i] at h
    split at h
    · rename_i v hv
      exact lv_ldc hx hb hown (hts _ (hct.1 _ (z_a_mem hv))) hd (hKG _ _ _ _ h hlen H locs ls' hP hS hl)
    · exact h.elim
  case ldc_w i =>
    obtain rfl := Nat.eq_of_beq_eq_true hc
    intro hlen H locs ls' hP hS hl
    dsimp only [z_i] at h
    split at h
    · rename_i v hv
      exact lv_ldcw hx hb hown (hts _ (hct.1 _ (z_a_mem hv))) hd (hKG _ _ _ _ h hlen H locs ls' hP hS hl)
    · exact h.elim
  case ldc2_w i =>
    obtain rfl := Nat.eq_of_beq_eq_true hc
    intro hlen H locs ls' hP hS hl
    dsimp only [z_i] at h
    split at h
    · rename_i v hv
      exact lv_ldc2 hx hb hown (hts _ (hct.2 _ (z_a_mem hv))) hd (hKG _ _ _ _ h hlen H locs ls' hP hS hl)
    · exact h.elim
  case iload_n n =>
    simp only [z_chk, Bool.and_eq_true] at hc
    obtain ⟨h1, h2⟩ := hc
    obtain rfl := Nat.eq_of_beq_eq_true h1
    intro hlen H locs ls' hP hS hl
    dsimp only [z_i] at h
    split at h
    · rename_i x hv
      exact lv_iload_n hx hb hd (Nat.eq_of_beq_eq_true h2) (z_has_at hl hv) (hKG _ _ _ _ h hlen H locs ls' hP hS hl)
    · exact h.elim
  case iload n =>
    simp only [z_chk, Bool.and_eq_true] at hc
    obtain ⟨h1, h2⟩ := hc
    obtain rfl := Nat.eq_of_beq_eq_true h1
    obtain rfl := Nat.eq_of_beq_eq_true h2
    intro hlen H locs ls' hP hS hl
    dsimp only [z_i] at h
    split at h
    · rename_i x hv
      exact lv_iload hx hb hd (z_has_at hl hv) (hKG _ _ _ _ h hlen H locs ls' hP hS hl)
    · exact h.elim
  case lload_n n =>
    simp only [z_chk, Bool.and_eq_true] at hc
    obtain ⟨h1, h2⟩ := hc
    obtain rfl := Nat.eq_of_beq_eq_true h1
    intro hlen H locs ls' hP hS hl
    dsimp only [z_i] at h
    split at h
    · rename_i x hv
      exact lv_lload_n hx hb hd (Nat.eq_of_beq_eq_true h2) (z_has_at hl hv) (hKG _ _ _ _ h hlen H locs ls' hP hS hl)
    · exact h.elim
  case lload n =>
    simp only [z_chk, Bool.and_eq_true] at hc
    obtain ⟨h1, h2⟩ := hc
    obtain rfl := Nat.eq_of_beq_eq_true h1
    obtain rfl := Nat.eq_of_beq_eq_true h2
    intro hlen H locs ls' hP hS hl
    dsimp only [z_i] at h
    split at h
    · rename_i x hv
      exact lv_lload hx hb hd (z_has_at hl hv) (hKG _ _ _ _ h hlen H locs ls' hP hS hl)
    · exact h.elim
  case aload_n n =>
    simp only [z_chk, Bool.and_eq_true] at hc
    obtain ⟨h1, h2⟩ := hc
    obtain rfl := Nat.eq_of_beq_eq_true h1
    intro hlen H locs ls' hP hS hl
    dsimp only [z_i] at h
    split at h
    · rename_i x hv
      exact lv_aload_n hx hb hd (Nat.eq_of_beq_eq_true h2) (z_has_at hl hv) (hKG _ _ _ _ h hlen H locs ls' hP hS hl)
    · exact h.elim
  case aload n =>
    simp only [z_chk, Bool.and_eq_true] at hc
    obtain ⟨h1, h2⟩ := hc
    obtain rfl := Nat.eq_of_beq_eq_true h1
    obtain rfl := Nat.eq_of_beq_eq_true h2
    intro hlen H locs ls' hP hS hl
    dsimp only [z_i] at h
    split at h
    · rename_i x hv
      exact lv_aload hx hb hd (z_has_at hl hv) (hKG _ _ _ _ h hlen H locs ls' hP hS hl)
    · exact h.elim
  case istore_n n =>
    simp only [z_chk, Bool.and_eq_true] at hc
    obtain ⟨h1, h2, h3⟩ := hc
    obtain rfl := Nat.eq_of_beq_eq_true h1
    intro hlen H locs ls' hP hS hl
    obtain ⟨x, r, rfl, h⟩ := z_1e h
    exact lv_istore_n hx hb hd (Nat.eq_of_beq_eq_true h2) hl (by simpa [Nat.blt_eq] using h3) rfl (fun ls2 hl2 => hKG _ _ _ _ h hlen H locs ls2 hP hS (z_has_sub (z_put1 rfl) hl2))
  case istore n =>
    simp only [z_chk, Bool.and_eq_true] at hc
    obtain ⟨h1, h2, h3⟩ := hc
    obtain rfl := Nat.eq_of_beq_eq_true h1
    obtain rfl := Nat.eq_of_beq_eq_true h2
    intro hlen H locs ls' hP hS hl
    obtain ⟨x, r, rfl, h⟩ := z_1e h
    exact lv_istore hx hb hd hl (by simpa [Nat.blt_eq] using h3) rfl (fun ls2 hl2 => hKG _ _ _ _ h hlen H locs ls2 hP hS (z_has_sub (z_put1 rfl) hl2))
  case lstore_n n =>
    simp only [z_chk, Bool.and_eq_true] at hc
    obtain ⟨h1, h2, h3⟩ := hc
    obtain rfl := Nat.eq_of_beq_eq_true h1
    intro hlen H locs ls' hP hS hl
    obtain ⟨x, r, rfl, h⟩ := z_L1e h
    exact lv_lstore_n hx hb hd (Nat.eq_of_beq_eq_true h2) hl (by simpa [Nat.blt_eq] using h3) rfl (fun ls2 hl2 => hKG _ _ _ _ h hlen H locs ls2 hP hS (z_has_sub (z_put2 rfl) hl2))
  case lstore n =>
    simp only [z_chk, Bool.and_eq_true] at hc
    obtain ⟨h1, h2, h3⟩ := hc
    obtain rfl := Nat.eq_of_beq_eq_true h1
    obtain rfl := Nat.eq_of_beq_eq_true h2
    intro hlen H locs ls' hP hS hl
    obtain ⟨x, r, rfl, h⟩ := z_L1e h
    exact lv_lstore hx hb hd hl (by simpa [Nat.blt_eq] using h3) rfl (fun ls2 hl2 => hKG _ _ _ _ h hlen H locs ls2 hP hS (z_has_sub (z_put2 rfl) hl2))
  case astore_n n =>
    simp only [z_chk, Bool.and_eq_true] at hc
    obtain ⟨h1, h2, h3⟩ := hc
    obtain rfl := Nat.eq_of_beq_eq_true h1
    intro hlen H locs ls' hP hS hl
    dsimp only [z_i] at h
    split at h
    · rename_i x r
      exact lv_astore_n hx hb hd (Nat.eq_of_beq_eq_true h2) hl (by simpa [Nat.blt_eq] using h3) rfl (fun ls2 hl2 => hKG _ _ _ _ h hlen H locs ls2 hP hS (z_has_sub (z_put1 rfl) hl2))
    · exact h.elim
  case astore n =>
    simp only [z_chk, Bool.and_eq_true] at hc
    obtain ⟨h1, h2, h3⟩ := hc
    obtain rfl := Nat.eq_of_beq_eq_true h1
    obtain rfl := Nat.eq_of_beq_eq_true h2
    intro hlen H locs ls' hP hS hl
    dsimp only [z_i] at h
    split at h
    · rename_i x r
      exact lv_astore hx hb hd hl (by simpa [Nat.blt_eq] using h3) rfl (fun ls2 hl2 => hKG _ _ _ _ h hlen H locs ls2 hP hS (z_has_sub (z_put1 rfl) hl2))
    · exact h.elim
  case iinc n d =>
    simp only [z_chk, Bool.and_eq_true] at hc
    obtain ⟨h1, h2, h3⟩ := hc
    obtain rfl := Nat.eq_of_beq_eq_true h1
    obtain rfl := Nat.eq_of_beq_eq_true h2
    intro hlen H locs ls' hP hS hl
    dsimp only [z_i] at h
    split at h
    · rename_i x hv
      obtain ⟨k, hk⟩ := List.getElem?_of_mem (List.mem_map.mpr ⟨_, z_a_mem hv, rfl⟩ : (z_p1 ps, z_v ad (.inl x)) ∈ z_l ad ls)
      exact lv_iinc hx hb hd hl hk (v := Int32.ofInt (x + d)) (by rw [← Int32.ofInt_add]) (by simpa [Nat.blt_eq] using h3) rfl (fun ls2 hl2 => hKG _ _ _ _ h hlen H locs ls2 hP hS (z_has_sub (z_put1 rfl) hl2))
    · exact h.elim
  case iadd =>
    obtain rfl := Nat.eq_of_beq_eq_true hc
    obtain ⟨x, y, r, rfl, h⟩ := z_2e h
    intro hlen H locs ls' hP hS hl
    refine lv_iadd hx hb hd ?_
    rw [← Int32.ofInt_add]
    exact hKG _ _ _ _ h hlen H locs ls' hP hS hl
  case isub =>
    obtain rfl := Nat.eq_of_beq_eq_true hc
    obtain ⟨x, y, r, rfl, h⟩ := z_2e h
    intro hlen H locs ls' hP hS hl
    refine lv_isub hx hb hd ?_
    rw [← Int32.ofInt_sub]
    exact hKG _ _ _ _ h hlen H locs ls' hP hS hl
  case imul =>
    obtain rfl := Nat.eq_of_beq_eq_true hc
    obtain ⟨x, y, r, rfl, h⟩ := z_2e h
    intro hlen H locs ls' hP hS hl
    refine lv_imul hx hb hd ?_
    rw [← Int32.ofInt_mul]
    exact hKG _ _ _ _ h hlen H locs ls' hP hS hl
  case iand =>
    obtain rfl := Nat.eq_of_beq_eq_true hc
    obtain ⟨x, y, r, rfl, h⟩ := z_2e h
    intro hlen H locs ls' hP hS hl
    refine lv_iand hx hb hd ?_
    have := hKG _ _ _ _ h hlen H locs ls' hP hS hl
    simp only [List.map, z_v, z_and, Int32.ofInt_toInt] at this
    exact this
  case ior =>
    obtain rfl := Nat.eq_of_beq_eq_true hc
    obtain ⟨x, y, r, rfl, h⟩ := z_2e h
    intro hlen H locs ls' hP hS hl
    refine lv_ior hx hb hd ?_
    have := hKG _ _ _ _ h hlen H locs ls' hP hS hl
    simp only [List.map, z_v, z_or, Int32.ofInt_toInt] at this
    exact this
  case ixor =>
    obtain rfl := Nat.eq_of_beq_eq_true hc
    obtain ⟨x, y, r, rfl, h⟩ := z_2e h
    intro hlen H locs ls' hP hS hl
    refine lv_ixor hx hb hd ?_
    have := hKG _ _ _ _ h hlen H locs ls' hP hS hl
    simp only [List.map, z_v, z_xor, Int32.ofInt_toInt] at this
    exact this
  case land =>
    obtain rfl := Nat.eq_of_beq_eq_true hc
    obtain ⟨x, y, r, rfl, h⟩ := z_L2e h
    intro hlen H locs ls' hP hS hl
    refine lv_land hx hb hd ?_
    have := hKG _ _ _ _ h hlen H locs ls' hP hS hl
    simp only [List.map, z_v, z_andL, Int64.ofInt_toInt] at this
    exact this
  case lor =>
    obtain rfl := Nat.eq_of_beq_eq_true hc
    obtain ⟨x, y, r, rfl, h⟩ := z_L2e h
    intro hlen H locs ls' hP hS hl
    refine lv_lor hx hb hd ?_
    have := hKG _ _ _ _ h hlen H locs ls' hP hS hl
    simp only [List.map, z_v, z_orL, Int64.ofInt_toInt] at this
    exact this
  case idiv =>
    obtain rfl := Nat.eq_of_beq_eq_true hc
    obtain ⟨x, y, r, rfl, ⟨hX, hY⟩, h⟩ := z_2e h
    intro hlen H locs ls' hP hS hl
    refine lv_idiv hx hb hd (fun q => ?_) ?_
    · have := congrArg Int32.toInt q
      rw [z_R (by omega)] at this
      have e0 : (0 : Int32).toInt = 0 := by decide
      omega
    · rw [z_div hX hY]
      exact hKG _ _ _ _ h hlen H locs ls' hP hS hl
  case irem =>
    obtain rfl := Nat.eq_of_beq_eq_true hc
    obtain ⟨x, y, r, rfl, ⟨hX, hY⟩, h⟩ := z_2e h
    intro hlen H locs ls' hP hS hl
    refine lv_irem hx hb hd (fun q => ?_) ?_
    · have := congrArg Int32.toInt q
      rw [z_R (by omega)] at this
      have e0 : (0 : Int32).toInt = 0 := by decide
      omega
    · rw [z_mod hX hY]
      exact hKG _ _ _ _ h hlen H locs ls' hP hS hl
  case ldiv =>
    obtain rfl := Nat.eq_of_beq_eq_true hc
    obtain ⟨x, y, r, rfl, ⟨hX, hY⟩, h⟩ := z_L2e h
    intro hlen H locs ls' hP hS hl
    refine lv_ldiv hx hb hd (fun q => ?_) ?_
    · have := congrArg Int64.toInt q
      rw [z_Q (by omega)] at this
      have e0 : (0 : Int64).toInt = 0 := by decide
      omega
    · rw [z_divL hX hY]
      exact hKG _ _ _ _ h hlen H locs ls' hP hS hl
  case lrem =>
    obtain rfl := Nat.eq_of_beq_eq_true hc
    obtain ⟨x, y, r, rfl, ⟨hX, hY⟩, h⟩ := z_L2e h
    intro hlen H locs ls' hP hS hl
    refine lv_lrem hx hb hd (fun q => ?_) ?_
    · have := congrArg Int64.toInt q
      rw [z_Q (by omega)] at this
      have e0 : (0 : Int64).toInt = 0 := by decide
      omega
    · rw [z_modL hX hY]
      exact hKG _ _ _ _ h hlen H locs ls' hP hS hl
  case ladd =>
    obtain rfl := Nat.eq_of_beq_eq_true hc
    obtain ⟨x, y, r, rfl, h⟩ := z_L2e h
    intro hlen H locs ls' hP hS hl
    refine lv_ladd hx hb hd ?_
    rw [← Int64.ofInt_add]
    exact hKG _ _ _ _ h hlen H locs ls' hP hS hl
  case lsub =>
    obtain rfl := Nat.eq_of_beq_eq_true hc
    obtain ⟨x, y, r, rfl, h⟩ := z_L2e h
    intro hlen H locs ls' hP hS hl
    refine lv_lsub hx hb hd ?_
    rw [← Int64.ofInt_sub]
    exact hKG _ _ _ _ h hlen H locs ls' hP hS hl
  case lmul =>
    obtain rfl := Nat.eq_of_beq_eq_true hc
    obtain ⟨x, y, r, rfl, h⟩ := z_L2e h
    intro hlen H locs ls' hP hS hl
    refine lv_lmul hx hb hd ?_
    rw [← Int64.ofInt_mul]
    exact hKG _ _ _ _ h hlen H locs ls' hP hS hl
  case ineg =>
    obtain rfl := Nat.eq_of_beq_eq_true hc
    obtain ⟨x, r, rfl, h⟩ := z_1e h
    intro hlen H locs ls' hP hS hl
    refine lv_ineg hx hb hd ?_
    rw [← Int32.ofInt_neg]
    exact hKG _ _ _ _ h hlen H locs ls' hP hS hl
  case ishl =>
    obtain rfl := Nat.eq_of_beq_eq_true hc
    obtain ⟨x, y, r, rfl, hY, h⟩ := z_2e h
    intro hlen H locs ls' hP hS hl
    refine lv_ishl hx hb hd ?_
    rw [z_shl hY]
    exact hKG _ _ _ _ h hlen H locs ls' hP hS hl
  case ishr =>
    obtain rfl := Nat.eq_of_beq_eq_true hc
    obtain ⟨x, y, r, rfl, ⟨hX, hY⟩, h⟩ := z_2e h
    intro hlen H locs ls' hP hS hl
    refine lv_ishr hx hb hd ?_
    rw [z_shr hX hY]
    exact hKG _ _ _ _ h hlen H locs ls' hP hS hl
  case lshl =>
    obtain rfl := Nat.eq_of_beq_eq_true hc
    obtain ⟨x, y, r, rfl, hY, h⟩ := z_LIe h
    intro hlen H locs ls' hP hS hl
    exact lv_lshl hx hb hd (z_shlL hY) (hKG _ _ _ _ h hlen H locs ls' hP hS hl)
  case lshr =>
    obtain rfl := Nat.eq_of_beq_eq_true hc
    obtain ⟨x, y, r, rfl, ⟨hX, hY⟩, h⟩ := z_LIe h
    intro hlen H locs ls' hP hS hl
    exact lv_lshr hx hb hd (z_shrL hX hY) (hKG _ _ _ _ h hlen H locs ls' hP hS hl)
  case iushr =>
    obtain rfl := Nat.eq_of_beq_eq_true hc
    obtain ⟨x, y, r, rfl, h⟩ := z_2e h
    intro hlen H locs ls' hP hS hl
    exact lv_iushr hx hb hd (v := Int32.ofInt (z_ushr x y)) (by rw [z_ushr, Int32.ofInt_toInt]) (hKG _ _ _ _ h hlen H locs ls' hP hS hl)
  case lushr =>
    obtain rfl := Nat.eq_of_beq_eq_true hc
    obtain ⟨x, y, r, rfl, h⟩ := z_LIe h
    intro hlen H locs ls' hP hS hl
    exact lv_lushr hx hb hd (v := Int64.ofInt (z_lushr x y)) (by rw [z_lushr, Int64.ofInt_toInt]) (hKG _ _ _ _ h hlen H locs ls' hP hS hl)
  case i2l =>
    obtain rfl := Nat.eq_of_beq_eq_true hc
    obtain ⟨x, r, rfl, hX, h⟩ := z_1e h
    intro hlen H locs ls' hP hS hl
    exact lv_i2l hx hb hd (z_i2l hX) (hKG _ _ _ _ h hlen H locs ls' hP hS hl)
  case l2i =>
    obtain rfl := Nat.eq_of_beq_eq_true hc
    obtain ⟨x, r, rfl, h⟩ := z_L1e h
    intro hlen H locs ls' hP hS hl
    rcases h with h | h
    · exact lv_l2i hx hb hd (v := Int32.ofInt x) (by rw [Int64.toInt32_ofInt]) (hKG _ _ _ _ h hlen H locs ls' hP hS hl)
    · exact lv_l2i hx hb hd (v := Int32.ofInt (x.bmod 4294967296)) (by rw [Int64.toInt32_ofInt, ← Int32.toInt_inj, Int32.toInt_ofInt, Int32.toInt_ofInt]; exact Int.bmod_bmod.symm) (hKG _ _ _ _ h hlen H locs ls' hP hS hl)
  case i2s =>
    obtain rfl := Nat.eq_of_beq_eq_true hc
    obtain ⟨x, r, rfl, h⟩ := z_1e h
    intro hlen H locs ls' hP hS hl
    exact lv_i2s hx hb hd (v := Int32.ofInt (x.bmod 65536)) (z_i2s x) (hKG _ _ _ _ h hlen H locs ls' hP hS hl)
  case if_icmp op off =>
    simp only [z_chk, Bool.and_eq_true, decide_eq_true_eq] at hc
    obtain ⟨h1, h2⟩ := hc
    obtain rfl := Nat.eq_of_beq_eq_true h1
    obtain ⟨x, y, r, rfl, ⟨hX, hY⟩, h⟩ := z_2e h
    intro hlen H locs ls' hP hS hl
    cases op
    case eq => exact lv_icmp_eq hx hb hd h2 (fun z => (hKG _ _ _ _ (h.1 ((z_req hX hY).mp z)) hlen H locs ls' hP hS hl)) (fun z => (hKG _ _ _ _ (h.2 (fun w => z ((z_req hX hY).mpr w))) hlen H locs ls' hP hS hl))
    case ne => exact lv_icmp_ne hx hb hd h2 (fun z => (hKG _ _ _ _ (h.1 (fun w => z ((z_req hX hY).mpr w))) hlen H locs ls' hP hS hl)) (fun z => (hKG _ _ _ _ (h.2 ((z_req hX hY).mp z)) hlen H locs ls' hP hS hl))
    case lt => exact lv_icmp_lt hx hb hd h2 (fun z => (hKG _ _ _ _ (h.1 ((z_rlt hX hY).mp z)) hlen H locs ls' hP hS hl)) (fun z => (hKG _ _ _ _ (h.2 (Int.not_lt.mp (fun w => z ((z_rlt hX hY).mpr w)))) hlen H locs ls' hP hS hl))
    case ge => exact lv_icmp_ge hx hb hd h2 (fun z => (hKG _ _ _ _ (h.1 ((z_rle hY hX).mp z)) hlen H locs ls' hP hS hl)) (fun z => (hKG _ _ _ _ (h.2 (Int.not_le.mp (fun w => z ((z_rle hY hX).mpr w)))) hlen H locs ls' hP hS hl))
    case gt => exact lv_icmp_gt hx hb hd h2 (fun z => (hKG _ _ _ _ (h.1 ((z_rlt hY hX).mp z)) hlen H locs ls' hP hS hl)) (fun z => (hKG _ _ _ _ (h.2 (Int.not_lt.mp (fun w => z ((z_rlt hY hX).mpr w)))) hlen H locs ls' hP hS hl))
    case le => exact lv_icmp_le hx hb hd h2 (fun z => (hKG _ _ _ _ (h.1 ((z_rle hX hY).mp z)) hlen H locs ls' hP hS hl)) (fun z => (hKG _ _ _ _ (h.2 (Int.not_le.mp (fun w => z ((z_rle hX hY).mpr w)))) hlen H locs ls' hP hS hl))
  case ifCond op off =>
    simp only [z_chk, Bool.and_eq_true, decide_eq_true_eq] at hc
    obtain ⟨h1, h2⟩ := hc
    obtain rfl := Nat.eq_of_beq_eq_true h1
    obtain ⟨x, r, rfl, hX, h⟩ := z_1e h
    intro hlen H locs ls' hP hS hl
    cases op
    case eq => exact lv_if_eq hx hb hd h2 (fun z => (hKG _ _ _ _ (h.1 ((z_req hX (show (-2147483648 : Int) ≤ 0 ∧ (0 : Int) ≤ 2147483647 by omega)).mp z)) hlen H locs ls' hP hS hl)) (fun z => (hKG _ _ _ _ (h.2 (fun w => z ((z_req hX (show (-2147483648 : Int) ≤ 0 ∧ (0 : Int) ≤ 2147483647 by omega)).mpr w))) hlen H locs ls' hP hS hl))
    case ne => exact lv_if_ne hx hb hd h2 (fun z => (hKG _ _ _ _ (h.1 (fun w => z ((z_req hX (show (-2147483648 : Int) ≤ 0 ∧ (0 : Int) ≤ 2147483647 by omega)).mpr w))) hlen H locs ls' hP hS hl)) (fun z => (hKG _ _ _ _ (h.2 ((z_req hX (show (-2147483648 : Int) ≤ 0 ∧ (0 : Int) ≤ 2147483647 by omega)).mp z)) hlen H locs ls' hP hS hl))
    case lt => exact lv_if_lt hx hb hd h2 (fun z => (hKG _ _ _ _ (h.1 ((z_rlt hX (show (-2147483648 : Int) ≤ 0 ∧ (0 : Int) ≤ 2147483647 by omega)).mp z)) hlen H locs ls' hP hS hl)) (fun z => (hKG _ _ _ _ (h.2 (Int.not_lt.mp (fun w => z ((z_rlt hX (show (-2147483648 : Int) ≤ 0 ∧ (0 : Int) ≤ 2147483647 by omega)).mpr w)))) hlen H locs ls' hP hS hl))
    case ge => exact lv_if_ge hx hb hd h2 (fun z => (hKG _ _ _ _ (h.1 ((z_rle (show (-2147483648 : Int) ≤ 0 ∧ (0 : Int) ≤ 2147483647 by omega) hX).mp z)) hlen H locs ls' hP hS hl)) (fun z => (hKG _ _ _ _ (h.2 (Int.not_le.mp (fun w => z ((z_rle (show (-2147483648 : Int) ≤ 0 ∧ (0 : Int) ≤ 2147483647 by omega) hX).mpr w)))) hlen H locs ls' hP hS hl))
    case gt => exact lv_if_gt hx hb hd h2 (fun z => (hKG _ _ _ _ (h.1 ((z_rlt (show (-2147483648 : Int) ≤ 0 ∧ (0 : Int) ≤ 2147483647 by omega) hX).mp z)) hlen H locs ls' hP hS hl)) (fun z => (hKG _ _ _ _ (h.2 (Int.not_lt.mp (fun w => z ((z_rlt (show (-2147483648 : Int) ≤ 0 ∧ (0 : Int) ≤ 2147483647 by omega) hX).mpr w)))) hlen H locs ls' hP hS hl))
    case le => exact lv_if_le hx hb hd h2 (fun z => (hKG _ _ _ _ (h.1 ((z_rle hX (show (-2147483648 : Int) ≤ 0 ∧ (0 : Int) ≤ 2147483647 by omega)).mp z)) hlen H locs ls' hP hS hl)) (fun z => (hKG _ _ _ _ (h.2 (Int.not_le.mp (fun w => z ((z_rle hX (show (-2147483648 : Int) ≤ 0 ∧ (0 : Int) ≤ 2147483647 by omega)).mpr w)))) hlen H locs ls' hP hS hl))
  case goto off =>
    simp only [z_chk, Bool.and_eq_true, decide_eq_true_eq] at hc
    obtain ⟨h1, h2⟩ := hc
    obtain rfl := Nat.eq_of_beq_eq_true h1
    intro hlen H locs ls' hP hS hl
    exact lv_goto hx hb hd h2 (hKG _ _ _ _ h hlen H locs ls' hP hS hl)
  case lcmp =>
    obtain rfl := Nat.eq_of_beq_eq_true hc
    obtain ⟨x, y, r, rfl, ⟨hX, hY⟩, h⟩ := z_L2e h
    intro hlen H locs ls' hP hS hl
    split at h
    · rename_i op off nx2 ps2 hq2
      obtain ⟨len2, hd2, hnx2, hc2⟩ := z_ent_spec htb hq2
      dsimp only at hd2 hnx2 hc2
      simp only [z_chk, Bool.and_eq_true, decide_eq_true_eq] at hc2
      obtain ⟨h1, h2⟩ := hc2
      obtain rfl := Nat.eq_of_beq_eq_true h1
      subst hnx2
      refine W.lcmp hx hb hd ?_
      rw [z_lcmp hX hY]
      obtain ⟨t, ht⟩ : ∃ t : Int, t = (if x < y then -1 else if x = y then 0 else 1) := ⟨_, rfl⟩
      rw [← ht]
      have hT : -2147483648 ≤ t ∧ t ≤ 2147483647 := by
        rw [ht]; split
        · omega
        · split <;> omega
      have hlt : t < 0 ↔ x < y := by
        rw [ht]; split
        · omega
        · split <;> omega
      have heq : t = 0 ↔ x = y := by
        rw [ht]; split
        · omega
        · split <;> omega
      have hgt : 0 < t ↔ y < x := by
        rw [ht]; split
        · omega
        · split <;> omega
      have Z : (-2147483648 : Int) ≤ 0 ∧ (0 : Int) ≤ 2147483647 := by omega
      cases op
      case eq => exact lv_if_eq hx hb hd2 h2 (fun z => hKG _ _ _ _ (h.1 (heq.mp ((z_req hT Z).mp z))) hlen H locs ls' hP hS hl) (fun z => hKG _ _ _ _ (h.2 (fun w => z ((z_req hT Z).mpr (heq.mpr w)))) hlen H locs ls' hP hS hl)
      case ne => exact lv_if_ne hx hb hd2 h2 (fun z => hKG _ _ _ _ (h.1 (fun w => z ((z_req hT Z).mpr (heq.mpr w)))) hlen H locs ls' hP hS hl) (fun z => hKG _ _ _ _ (h.2 (heq.mp ((z_req hT Z).mp z))) hlen H locs ls' hP hS hl)
      case lt => exact lv_if_lt hx hb hd2 h2 (fun z => hKG _ _ _ _ (h.1 (hlt.mp ((z_rlt hT Z).mp z))) hlen H locs ls' hP hS hl) (fun z => hKG _ _ _ _ (h.2 (Int.not_lt.mp (fun w => z ((z_rlt hT Z).mpr (hlt.mpr w))))) hlen H locs ls' hP hS hl)
      case ge => exact lv_if_ge hx hb hd2 h2 (fun z => hKG _ _ _ _ (h.1 (Int.not_lt.mp (fun w => absurd ((z_rle Z hT).mp z) (by have := hlt.mpr w; omega)))) hlen H locs ls' hP hS hl) (fun z => hKG _ _ _ _ (h.2 (Int.not_le.mp (fun w => z ((z_rle Z hT).mpr (Int.not_lt.mp (fun v => absurd (hlt.mp v) (by omega))))))) hlen H locs ls' hP hS hl)
      case gt => exact lv_if_gt hx hb hd2 h2 (fun z => hKG _ _ _ _ (h.1 (hgt.mp ((z_rlt Z hT).mp z))) hlen H locs ls' hP hS hl) (fun z => hKG _ _ _ _ (h.2 (Int.not_lt.mp (fun w => z ((z_rlt Z hT).mpr (hgt.mpr w))))) hlen H locs ls' hP hS hl)
      case le => exact lv_if_le hx hb hd2 h2 (fun z => hKG _ _ _ _ (h.1 (Int.not_lt.mp (fun w => absurd ((z_rle hT Z).mp z) (by have := hgt.mpr w; omega)))) hlen H locs ls' hP hS hl) (fun z => hKG _ _ _ _ (h.2 (Int.not_le.mp (fun w => z ((z_rle hT Z).mpr (Int.not_lt.mp (fun v => absurd (hgt.mp v) (by omega))))))) hlen H locs ls' hP hS hl)
    · exact h.elim
  case dup =>
    obtain rfl := Nat.eq_of_beq_eq_true hc
    intro hlen H locs ls' hP hS hl
    dsimp only [z_i] at h
    split at h
    · exact lv_dup hx hb hd rfl (hKG _ _ _ _ h hlen H locs ls' hP hS hl)
    · exact lv_dup hx hb hd rfl (hKG _ _ _ _ h hlen H locs ls' hP hS hl)
    · exact h.elim
  case pop =>
    obtain rfl := Nat.eq_of_beq_eq_true hc
    intro hlen H locs ls' hP hS hl
    dsimp only [z_i] at h
    split at h
    · rename_i x r
      exact lv_pop hx hb (va := z_v ad (.inl x)) hd rfl (hKG _ _ _ _ h hlen H locs ls' hP hS hl)
    · rename_i x r
      exact lv_pop hx hb (va := z_v ad (.inr (.inr x))) hd rfl (hKG _ _ _ _ h hlen H locs ls' hP hS hl)
    · exact h.elim
  case getfield i =>
    obtain rfl := Nat.eq_of_beq_eq_true hc
    intro hlen H locs ls' hP hS hl
    dsimp only [z_i] at h
    split at h
    · rename_i q r
      split at h
      · rename_i o ho
        split at h
        · rename_i t ht
          obtain ⟨hci, h⟩ := z_bif h
          have hci := Nat.eq_of_beq_eq_true hci
          split at h
          · rename_i v hv
            obtain ⟨C, T, N, f1, f2, f3, f4, f5, -⟩ := hft _ (z_a_mem ht)
            dsimp only at f1 f2 f4 f5
            have hP0 := z_w_at (ad := ad) (cA := cA) ho
            have hv' : (o.2.map (z_v ad))[t.2.1]? = some (z_v ad v) := by rw [List.getElem?_map, ← z_g_eq, hv]; rfl
            rw [← hci] at f1
            rcases f5 with f5 | ⟨host, f5⟩
            · exact va_get hx hb hts f3 hown hK hP q hP0 f1 t.2.1 f2 (hts _ f5) (fun x hx => by rw [f4] at hx; exact hx) hv' hd (hKG _ _ _ _ h hlen H locs ls' hP hS hl)
            · exact va_getN hx hb hts f3 hown hK hP q hP0 f1 t.2.1 f2 (va_Nw.use rfl (hN _ f5)) (fun x hx => by rw [f4] at hx; exact hx) hv' hd (hKG _ _ _ _ h hlen H locs ls' hP hS hl)
          · exact h.elim
        · exact h.elim
      · exact h.elim
    · exact h.elim
  case putfield i =>
    obtain rfl := Nat.eq_of_beq_eq_true hc
    intro hlen H locs ls' hP hS hl
    dsimp only [z_i] at h
    split at h
    · rename_i x q r
      split at h
      · rename_i o ho
        split at h
        · rename_i t ht
          obtain ⟨hci, h⟩ := z_bif h
          obtain ⟨hlt, h⟩ := z_bif h
          have hci := Nat.eq_of_beq_eq_true hci
          have hlt : t.2.1 < o.2.length := by simpa [Nat.blt_eq] using hlt
          obtain ⟨C, T, N, f1, f2, f3, f4, -, f6⟩ := hft _ (z_a_mem ht)
          dsimp only at f1 f2 f4 f6
          have hP0 := z_w_at (ad := ad) (cA := cA) ho
          rw [← hci] at f1
          have hset : ∀ H1, va_P D classes ((z_w ad cA ws).set q (ad q, .inr (o.1, (o.2.map (z_v ad)).set t.2.1 (.int (Int32.ofInt x))))) H1 → va_P D classes (z_w ad cA (z_s ws q (.inl (o.1, z_s o.2 t.2.1 (.inl x))))) H1 := fun H1 h1 => by
            rw [z_w_set]
            have e : z_e ad cA (.inl (o.1, z_s o.2 t.2.1 (.inl x))) = .inr (o.1, (o.2.map (z_v ad)).set t.2.1 (.int (Int32.ofInt x))) := by
              show Sum.inr (o.1, (z_s o.2 t.2.1 (.inl x)).map (z_v ad)) = _
              rw [z_s_eq, List.map_set]; rfl
            rw [e]; exact h1
          split at h
          · rename_i h9
            obtain ⟨g1, g2, ⟨ty0, g3⟩, g4, g5⟩ := f6 (by omega)
            rcases g5 with ⟨-, g5⟩ | ⟨g6, -⟩
            · refine va_put hx hb hts f3 ty0 g3 g4 hown hK hP (hD hlen) hS q hP0 f1 t.2.1 f2 (hts _ g1) (fun x hx => by rw [f4] at hx; exact hx) g2 g5 (v := .int (Int32.ofInt x)) rfl rfl (by simpa using hlt) hd (fun H1 locs1 hP1 _ hS1 => ?_)
              exact hKG _ _ _ _ h (by rw [z_s_len]; exact hlen) H1 locs1 ls' (hset H1 hP1) hS1 hl
            · omega
          · rename_i h9
            obtain ⟨g1, g2, ⟨ty0, g3⟩, g4, g5⟩ := f6 (by omega)
            rcases g5 with ⟨g6, -⟩ | ⟨-, g5⟩
            · omega
            · refine va_put hx hb hts f3 ty0 g3 g4 hown hK hP (hD hlen) hS q hP0 f1 t.2.1 f2 (hts _ g1) (fun x hx => by rw [f4] at hx; exact hx) g2 g5 (v := .int (Int32.ofInt x)) (by rcases h.1 with rfl | rfl <;> decide) (by rcases h.1 with rfl | rfl <;> decide) (by simpa using hlt) hd (fun H1 locs1 hP1 _ hS1 => ?_)
              exact hKG _ _ _ _ h.2 (by rw [z_s_len]; exact hlen) H1 locs1 ls' (hset H1 hP1) hS1 hl
          · exact h.elim
        · exact h.elim
      · exact h.elim
    · exact h.elim
  case iaload =>
    obtain rfl := Nat.eq_of_beq_eq_true hc
    intro hlen H locs ls' hP hS hl
    dsimp only [z_i] at h
    split at h
    · rename_i i q r
      split at h
      · rename_i t n f ho
        have hP0 := z_w_at (ad := ad) (cA := cA) ho
        refine va_iald hx hb hK hP q 0 hP0 rfl (z_vin h.1) hd ?_
        rw [z_cl h.1]
        exact hKG _ _ _ _ h.2 hlen H locs ls' hP hS hl
      · exact h.elim
      · split at h
        · rename_i b _
          obtain ⟨hq9, h⟩ := z_bif h
          have hq9 := Nat.eq_of_beq_eq_true hq9
          subst hq9
          refine va_sld hx hb hsc.1 hsc.2.1 hsc.2.2 hS (z_vin h.1) hd ?_
          rw [z_cl h.1]
          exact hKG _ _ _ _ h.2 hlen H locs ls' hP hS hl
        · exact h.elim
    · exact h.elim
  case laload =>
    obtain rfl := Nat.eq_of_beq_eq_true hc
    intro hlen H locs ls' hP hS hl
    dsimp only [z_i] at h
    split at h
    · rename_i i q r
      split at h
      · rename_i t n f ho
        have hP0 := z_w_at (ad := ad) (cA := cA) ho
        refine va_lald hx hb hK hP q 1 hP0 rfl (z_vin h.1) hd ?_
        rw [z_cl h.1]
        exact hKG _ _ _ _ h.2 hlen H locs ls' hP hS hl
      · exact h.elim
    · exact h.elim
  case aaload =>
    obtain rfl := Nat.eq_of_beq_eq_true hc
    intro hlen H locs ls' hP hS hl
    dsimp only [z_i] at h
    split at h
    · rename_i i q r
      split at h
      · rename_i t n f ho
        obtain ⟨ht, h⟩ := z_bif h
        have ht := Nat.le_of_ble_eq_true ht
        have hP0 := z_w_at (ad := ad) (cA := cA) ho
        rcases (show t = 0 ∨ t = 1 by omega) with rfl | rfl
        · refine va_aldq hx hb hK hP q 2 hP0 rfl (z_vin h.1) hd ?_
          rw [z_cl h.1]
          exact hKG _ _ _ _ h.2 hlen H locs ls' hP hS hl
        · refine va_aldq hx hb hK hP q 3 hP0 rfl (z_vin h.1) hd ?_
          rw [z_cl h.1]
          exact hKG _ _ _ _ h.2 hlen H locs ls' hP hS hl
      · exact h.elim
    · exact h.elim
  case iastore =>
    obtain rfl := Nat.eq_of_beq_eq_true hc
    intro hlen H locs ls' hP hS hl
    dsimp only [z_i] at h
    split at h
    · rename_i v i q r
      split at h
      · rename_i t n f ho
        have hP0 := z_w_at (ad := ad) (cA := cA) ho
        refine va_iast hx hb hK hP (hD hlen) hS q 0 hP0 rfl (z_vin h.1) hd (fun H1 locs1 hP1 _ hS1 => ?_)
        rw [z_upd h.1] at hP1
        exact hKG _ _ _ _ h.2 (by rw [z_s_len]; exact hlen) H1 locs1 ls' (by rw [z_w_set]; exact hP1) hS1 hl
      · exact h.elim
    · exact h.elim
  case lastore =>
    obtain rfl := Nat.eq_of_beq_eq_true hc
    intro hlen H locs ls' hP hS hl
    dsimp only [z_i] at h
    split at h
    · rename_i v i q r
      split at h
      · rename_i t n f ho
        have hP0 := z_w_at (ad := ad) (cA := cA) ho
        refine va_last hx hb hK hP (hD hlen) hS q 1 hP0 rfl (z_vin h.1) hd (fun H1 locs1 hP1 _ hS1 => ?_)
        rw [z_updL h.1] at hP1
        exact hKG _ _ _ _ h.2 (by rw [z_s_len]; exact hlen) H1 locs1 ls' (by rw [z_w_set]; exact hP1) hS1 hl
      · exact h.elim
    · exact h.elim
  case arraylength =>
    obtain rfl := Nat.eq_of_beq_eq_true hc
    intro hlen H locs ls' hP hS hl
    dsimp only [z_i] at h
    split at h
    · rename_i q r
      split at h
      · exact h.elim
      · split at h
        · rename_i b _
          obtain ⟨hq9, h⟩ := z_bif h
          have hq9 := Nat.eq_of_beq_eq_true hq9
          subst hq9
          refine va_slen hx hb hsc.1 hsc.2.1 hsc.2.2 hS hd ?_
          rw [← Int32.ofInt_eq_ofNat]
          exact hKG _ _ _ _ h hlen H locs ls' hP hS hl
        · exact h.elim
    · exact h.elim
  case ireturn =>
    obtain rfl := Nat.eq_of_beq_eq_true hc
    dsimp only [z_i] at h
    split at h
    · exact hR.1 _ _ _ _ hd h
    · exact h.elim
  case lreturn =>
    obtain rfl := Nat.eq_of_beq_eq_true hc
    dsimp only [z_i] at h
    split at h
    · exact hR.2.1 _ _ _ _ hd h
    · exact h.elim
  case return_ =>
    obtain rfl := Nat.eq_of_beq_eq_true hc
    dsimp only [z_i] at h
    split at h
    · exact hR.2.2 _ _ _ hd h
    · exact h.elim
  case tableswitch d lo hi offs =>
    simp only [z_chk, Bool.and_eq_true, decide_eq_true_eq] at hc
    obtain ⟨h1, h2⟩ := hc
    obtain ⟨x, r, rfl, hX, h⟩ := z_1e h
    intro hlen H locs ls' hP hS hl
    cases ps with
    | nil => exact h.elim
    | cons t0 ts =>
      simp only [List.map_cons, List.cons.injEq] at h1
      obtain ⟨e0, e1⟩ := h1
      have eL : ts.length = offs.size := by
        have := congrArg List.length e1
        simpa using this
      by_cases ho : x < lo ∨ hi < x
      · exact lv_tableOut hx hb hd (by rw [z_R hX]; exact ho) e0.symm (hKG _ _ _ _ (h.1 ho) hlen H locs ls' hP hS hl)
      · have hk : (x - lo).toNat < ts.length := by omega
        obtain ⟨t, k1, k2⟩ := z_swlE h.2 (x - lo).toNat hk (by omega)
        have k3 : (offs.toList)[(x - lo).toNat]? = some ((t : Int) - pc) := by
          have e2 := congrArg (fun z => z[(x - lo).toNat]?) e1
          simp only [List.getElem?_map, k1, Option.map_some] at e2
          cases hz : offs.toList[(x - lo).toNat]? with
          | none => rw [hz] at e2; cases e2
          | some o =>
            rw [hz] at e2
            have := Option.some.inj e2
            dsimp only at this
            congr 1; omega
        exact lv_tableIn hx hb hd (by rw [z_R hX]; omega) (by rw [z_R hX]; omega) (off := (t : Int) - pc) (by rw [z_R hX, ← Array.getElem?_toList]; exact k3) (tgt := t) (by omega) (hKG _ _ _ _ k2 hlen H locs ls' hP hS hl)
  case lookupswitch d prs =>
    simp only [z_chk, Bool.and_eq_true, decide_eq_true_eq] at hc
    obtain ⟨h1, h2⟩ := hc
    obtain ⟨x, r, rfl, hX, h⟩ := z_1e h
    intro hlen H locs ls' hP hS hl
    have hpr : (prs.toList.zip (prs.toList.drop 1)).all (fun (a, next) => a.1 < next.1) = true := h2
    cases ps with
    | nil => exact h.elim
    | cons t0 ts =>
      simp only [List.map_cons, List.cons.injEq] at h1
      obtain ⟨e0, e1⟩ := h1
      have key : ∀ (rs : List (Int × Int)) (us : List Nat), us.map (fun t : Nat => (t : Int)) = (rs.map (fun q => q.2)).map (fun o => (pc : Int) + o) → z_lk (fun t => K t ls r ws) x t0 rs us → ∃ (off : Int) (t : Nat), Op.lookupswitch.offset rs d x = off ∧ (pc : Int) + off = (t : Int) ∧ K t ls r ws := by
        intro rs
        induction rs with
        | nil => intro us _ hk; exact ⟨d, t0, rfl, e0.symm, hk⟩
        | cons q rs ih =>
          intro us hu hk
          cases us with
          | nil => cases hu
          | cons u us =>
            simp only [List.map_cons, List.cons.injEq] at hu
            by_cases hxq : x = q.1
            · exact ⟨q.2, u, by rw [Op.lookupswitch.offset_cons, if_pos hxq.symm], hu.1.symm, hk.1 hxq⟩
            · obtain ⟨off, t, a1, a2, a3⟩ := ih us hu.2 (hk.2 hxq)
              exact ⟨off, t, by rw [Op.lookupswitch.offset_cons, if_neg (fun w => hxq w.symm)]; exact a1, a2, a3⟩
      obtain ⟨off, t, a1, a2, a3⟩ := key _ _ e1 h
      exact lv_lookup hx hb hd hpr (off := off) (by rw [z_R hX]; exact a1) a2 (hKG _ _ _ _ a3 hlen H locs ls' hP hS hl)
  case invokevirtual i =>
    exact h
  case invokestatic i =>
    exact h
  case invokespecial i =>
    exact h
  all_goals exact h.elim
theorem z_go {p : Program} {l : Launch} {e : Env} {R : Room} {s : State} {m : MethodId} {args : Array Value} {below : List Frame} {meth : Method} {c : Code} {cells slots : Nat} {Q : State → Prop} {cc : ByteArray} {own : String} {D : va_G} {cA : Nat → ClassId} {ad : Nat → Nat} {A : Nat → Prop} {n0 nL : Nat} {sc : Option (Nat × (Int → Int))}
    (X : z_X p s m args c cc own D cA ad A n0 nL sc) {tb : List (Nat × zI)} {ft : List (Nat × (Nat × (Nat × Nat)))} {ct : List (Nat × Int) × List (Nat × Int)} {Rr : Option zV → zW → Prop}
    (htb : tb.all (z_ent cc nL) = true) (hft : z_fok own ft) (hct : z_cok own ct) (hR : z_RR cc Rr (z_G p l e R s m args below meth c cells slots Q D cA ad A n0 nL)) (stops : List Nat) :
    ∀ (n : Nat) (pc : Nat) (ls : zL) (st : List zV) (ws : zW), z_run tb ft ct sc Rr stops (z_G p l e R s m args below meth c cells slots Q D cA ad A n0 nL) n pc ls st ws → z_G p l e R s m args below meth c cells slots Q D cA ad A n0 nL pc ls st ws
  | 0, pc, ls, st, ws, h => h
  | n + 1, pc, ls, st, ws, h => by
    unfold z_run at h
    split at h
    · exact h.elim
    · rename_i q hq
      refine z_snd X htb hft hct hR (K := fun pc' ls' st' ws' => bif z_in pc' stops then z_G p l e R s m args below meth c cells slots Q D cA ad A n0 nL pc' ls' st' ws' else z_run tb ft ct sc Rr stops (z_G p l e R s m args below meth c cells slots Q D cA ad A n0 nL) n pc' ls' st' ws') (fun pc' ls' st' ws' hk => ?_) hq h
      cases hz : z_in pc' stops with
      | true => rw [hz] at hk; exact hk
      | false => rw [hz] at hk; exact z_go X htb hft hct hR stops n pc' ls' st' ws' hk
