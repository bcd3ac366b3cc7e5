/-! THE RULES OF A METHOD'S BODY: what a proof may use of the unknown G -/
def z_cpy (f g : Int → Int) (n : Int) : Int → Int := fun j => if 0 ≤ j ∧ j < n then f j else g j
theorem z_copy {p : Program} {l : Launch} {e : Env} {R : Room} {s : State} {m : MethodId} {args : Array Value} {below : List Frame} {meth : Method} {c : Code} {cells slots : Nat} {Q : State → Prop} {cc : ByteArray} {own : String} {D : va_G} {cA : Nat → ClassId} {ad : Nat → Nat} {A : Nat → Prop} {n0 nL : Nat} {sc : Option (Nat × (Int → Int))}
    (X : z_X p s m args c cc own D cA ad A n0 nL sc) {tb : List (Nat × zI)} (htb : tb.all (z_ent cc nL) = true)
    {i : Nat} (hlk : Cond.methodLink own i arraycopyName ∈ z_tbl) (hroom : 1 ≤ R.frames ∧ 60 ≤ R.locals)
    {ws : zW} {q0 q1 t0 t1 n1 n2 : Nat} {f g : Int → Int} {n : Int} (h0 : z_g ws q0 = some (.inr (t0, (n1, .inl f)))) (h1 : z_g ws q1 = some (.inr (t1, (n2, .inl g)))) (hn : (0 ≤ n ∧ n ≤ 2147483647) ∧ n ≤ (n1 : Int) ∧ n ≤ (n2 : Int))
    {pc nx : Nat} {ps : List Nat} {ls : zL} {rest : List zV} (hpc : z_a tb pc = some (.invokestatic i, (nx, ps))) (hcat : z_catsum rest ≤ 8)
    (kk : z_G p l e R s m args below meth c cells slots Q D cA ad A n0 nL nx ls rest (z_s ws q1 (.inr (t1, (n2, .inl (z_cpy f g n)))))) : z_G p l e R s m args below meth c cells slots Q D cA ad A n0 nL pc ls (.inl n :: .inl 0 :: .inr (.inr q1) :: .inl 0 :: .inr (.inr q0) :: rest) ws := by
  obtain ⟨hd, hnx⟩ := z_nx htb hpc (Or.inr (Or.inl ⟨i, rfl⟩))
  dsimp only at hd hnx
  subst hnx
  intro hlen H locs ls' hP hS hl
  obtain ⟨hx, hb, hml, hown, hts, hK, hN, hinj, hAd, hA0, hsc⟩ := X
  have hD : va_D A (z_w ad cA ws) := z_D hlen hinj hAd
  have e0 : (Int32.ofInt 0).toNatClampNeg = 0 := by decide
  have en : (((Int32.ofInt n).toNatClampNeg : Nat) : Int) = n := z_cl (n := n.toNat + 1) (by omega)
  have hfun : va_cpy (fun j : Nat => Int32.ofInt (f (j : Int))) (fun j : Nat => Int32.ofInt (g (j : Int))) (Int32.ofInt 0).toNatClampNeg (Int32.ofInt 0).toNatClampNeg (Int32.ofInt n).toNatClampNeg = fun j : Nat => Int32.ofInt (z_cpy f g n (j : Int)) := by
    funext j
    unfold va_cpy z_cpy
    rw [e0]
    by_cases hj : (j : Int) < n
    · rw [if_pos (by omega), if_pos (by omega)]
      simp
    · rw [if_neg (by omega), if_neg (by omega)]
  refine va_copyi hx hb (hml.trans hl.1.symm) hown (hts _ hlk) (hts _ (z_mem 374 (by decide +kernel) (by decide +kernel))) (hts _ (z_mem 373 (by decide +kernel) (by decide +kernel))) (hts _ (z_mem 58 (by decide +kernel) (by decide +kernel))) hK hP hD hS q0 q1 0 0 (z_w_at (ad := ad) (cA := cA) h0) (z_w_at (ad := ad) (cA := cA) h1) rfl rfl rfl ?_ ?_ ?_ ?_ ?_ ?_ hroom.1 ?_ hd (fun H1 locs1 hP1 _ hS1 => ?_)
  · decide
  · decide
  · rw [show (0 : Int32) = Int32.ofInt 0 from rfl, z_rlt (by omega) (by omega)]; omega
  · rw [e0]; omega
  · rw [e0]; omega
  · intro k _; rfl
  · rw [z_catsum_eq]
    have : nativeFrameWords "java/lang/System" "arraycopy" 5 + 11 ≤ 52 := by decide +kernel
    omega
  · rw [hfun] at hP1
    exact kk (by rw [z_s_len]; exact hlen) H1 locs1 ls' (by rw [z_w_set]; exact hP1) hS1 hl
/-- cells that say the same of the heap: rows of references may differ behind their end -/
def z_ceq (c c' : zC) : Prop := c = c' ∨ ∃ (t n : Nat) (f f' : Int → Nat), c = .inr (t, (n, .inr (.inr f))) ∧ c' = .inr (t, (n, .inr (.inr f'))) ∧ ∀ j : Nat, j < n → f j = f' j
def z_weq : zW → zW → Prop
  | [], [] => True
  | c :: w, c' :: w' => z_ceq c c' ∧ z_weq w w'
  | _, _ => False
theorem z_weq_at : ∀ {w w' : zW}, z_weq w w' → w.length = w'.length ∧ ∀ (k : Nat) (c' : zC), w'[k]? = some c' → ∃ c, w[k]? = some c ∧ z_ceq c c'
  | [], [], _ => ⟨rfl, fun k c' h => by simp at h⟩
  | [], _ :: _, h => h.elim
  | _ :: _, [], h => h.elim
  | c :: w, c' :: w', h => by
    obtain ⟨h1, h2⟩ := z_weq_at h.2
    refine ⟨by simp [h1], fun k d hk => ?_⟩
    cases k with
    | zero => exact ⟨c, rfl, by have : c' = d := by simpa using hk
                                rw [← this]; exact h.1⟩
    | succ k => exact h2 k d (by simpa using hk)
theorem z_weq_P {D : va_G} {cA : Nat → ClassId} {ad : Nat → Nat} {w w' : zW} {H : Heap} (h : z_weq w w') (hP : va_P D classes (z_w ad cA w) H) : va_P D classes (z_w ad cA w') H := by
  intro k q hq
  rw [z_w_get] at hq
  cases hc : w'[k]? with
  | none => rw [hc] at hq; cases hq
  | some c' =>
    rw [hc] at hq
    have := Option.some.inj hq
    subst this
    obtain ⟨c, h1, h2⟩ := (z_weq_at h).2 k c' hc
    have h4 := hP k _ (z_w_at (ad := ad) (cA := cA) (by rw [z_g_eq]; exact h1))
    rcases h2 with rfl | ⟨t, n, f, f', rfl, rfl, hf⟩
    · exact h4
    · have e : vp_cell (cA (2 + t)) (n, .inr (.inr (.inr (.inr (fun j : Nat => some (ad (f (j : Int)))))))) = vp_cell (cA (2 + t)) (n, .inr (.inr (.inr (.inr (fun j : Nat => some (ad (f' (j : Int)))))))) := by
        simp only [vp_cell, arrV]
        congr 2
        funext j
        rw [hf j.val j.isLt]
      show H[ad k]? = some (vp_cell (cA (2 + t)) (n, .inr (.inr (.inr (.inr (fun j : Nat => some (ad (f' (j : Int)))))))))
      rw [← e]; exact h4
theorem z_weq_rf : ∀ w : zW, z_weq w w
  | [] => trivial
  | _ :: w => ⟨Or.inl rfl, z_weq_rf w⟩
theorem z_weq_app : ∀ {a a' b b' : zW}, z_weq a a' → z_weq b b' → z_weq (a ++ b) (a' ++ b')
  | [], [], _, _, _, h => h
  | [], _ :: _, _, _, h, _ => h.elim
  | _ :: _, [], _, _, h, _ => h.elim
  | _ :: _, _ :: _, _, _, h, h2 => ⟨h.1, z_weq_app h.2 h2⟩
def z_rok (ret : Option FieldType) (v : Option zV) : Prop := match ret, v with
  | none, none => True
  | some .int, some (.inl _) => True
  | some .boolean, some (.inl x) => x = 0 ∨ x = 1
  | some .long, some (.inr (.inl _)) => True
  | _, _ => False
def z_Rr (ret : Option FieldType) (P : Option zV → zW → Prop) : Option zV → zW → Prop := fun v w => z_rok ret v ∧ P v w
def z_args : Nat → List zV → zL
  | _, [] => []
  | i, v :: vs => (i, v) :: z_args (bif z_isL v then i + 2 else i + 1) vs
theorem z_args_eq (ad : Nat → Nat) : ∀ (i : Nat) (vs : List zV), z_l ad (z_args i vs) = lv_args i (vs.map (z_v ad))
  | _, [] => rfl
  | i, v :: vs => by
    have e : (bif z_isL v then i + 2 else i + 1) = (if (z_v ad v).category = 2 then i + 2 else i + 1) := by
      rcases v with x | x | x <;> rfl
    show (i, z_v ad v) :: z_l ad (z_args _ vs) = (i, z_v ad v) :: lv_args _ (vs.map (z_v ad))
    rw [z_args_eq ad _ vs, e]
theorem z_sl (ad : Nat → Nat) : ∀ vs : List zV, (lg_sl (vs.map (z_v ad))).length = z_catsum vs
  | [] => rfl
  | v :: vs => by
    have := z_sl ad vs
    simp only [lg_sl, List.map_cons, List.flatMap_cons, List.length_append, z_catsum] at this ⊢
    rw [this]
    rcases v with x | x | x <;> rfl
/-- the run of instructions up to a stop, a call, a return -/
def z_rules (y : zM) (own : String) (tb : List (Nat × zI)) (ft : List (Nat × (Nat × (Nat × Nat)))) (ct : List (Nat × Int) × List (Nat × Int)) (P : Option zV → zW → Prop) (n0 : Nat) (G : zG) : Prop :=
  (∀ (stops : List Nat) (n : Nat) (pc : Nat) (ls : zL) (st : List zV) (ws : zW), z_run tb ft ct none (z_Rr y.2.2.2.1 P) stops G n pc ls st ws → G pc ls st ws) ∧
  (∀ {y' : zM} {k0 : Nat} {As : List zV} {w' : zW} {P' : Option zV → zW → Prop} (_ : zMet y' (.inr (.inr k0) :: As) w' P') {n ci i : Nat} (_ : z_yV y' n ci) (_ : Cond.methodLink own i y'.1 ∈ z_tbl)
    (_ : y'.2.2.2.2.1 + 1 ≤ y.2.2.2.2.1 ∧ 8 + (y'.2.2.1 + 11) + y'.2.2.2.2.2 ≤ y.2.2.2.2.2) (_ : As.length = n) {fs : List zV} (_ : z_g w' k0 = some (.inl (ci, fs)))
    (π : List Nat) (_ : π.Nodup) {ws : zW} (_ : π.map (z_g ws) = w'.map (fun c => some (z_ren π c))) {pc nx : Nat} {ps : List Nat} {ls : zL} {st rest : List zV} (_ : z_a tb pc = some (.invokevirtual i, (nx, ps)))
    (_ : st = (As.map (z_rv π)).reverse ++ .inr (.inr (z_pl π k0)) :: rest) (_ : z_catsum rest ≤ 8)
    (_ : ∀ v w2, P' v w2 → w2.length = w'.length → G nx ls ((v.map (z_rv π)).toList ++ rest) (z_sct π π w2 ws)), G pc ls st ws) ∧
  (∀ {y' : zM} {As : List zV} {w' : zW} {P' : Option zV → zW → Prop} (_ : zMet y' As w' P') {n i : Nat} (_ : z_yS y' n) (_ : z_lk1 own i y'.1)
    (_ : y'.2.2.2.2.1 + 1 ≤ y.2.2.2.2.1 ∧ 8 + (y'.2.2.1 + 11) + y'.2.2.2.2.2 ≤ y.2.2.2.2.2) (_ : As.length = n)
    (π : List Nat) (_ : π.Nodup) {ws : zW} (_ : π.map (z_g ws) = w'.map (fun c => some (z_ren π c))) {pc nx : Nat} {ps : List Nat} {ls : zL} {st rest : List zV} (_ : z_a tb pc = some (.invokestatic i, (nx, ps)))
    (_ : st = (As.map (z_rv π)).reverse ++ rest) (_ : z_catsum rest ≤ 8)
    (_ : ∀ v w2, P' v w2 → w2.length = w'.length → G nx ls ((v.map (z_rv π)).toList ++ rest) (z_sct π π w2 ws)), G pc ls st ws) ∧
  (∀ {i : Nat} (_ : Cond.methodLink own i arraycopyName ∈ z_tbl) (_ : 1 ≤ y.2.2.2.2.1 ∧ 60 ≤ y.2.2.2.2.2)
    {ws : zW} {q0 q1 t0 t1 n1 n2 : Nat} {f g : Int → Int} {n : Int} (_ : z_g ws q0 = some (.inr (t0, (n1, .inl f)))) (_ : z_g ws q1 = some (.inr (t1, (n2, .inl g)))) (_ : (0 ≤ n ∧ n ≤ 2147483647) ∧ n ≤ (n1 : Int) ∧ n ≤ (n2 : Int))
    {pc nx : Nat} {ps : List Nat} {ls : zL} {rest : List zV} (_ : z_a tb pc = some (.invokestatic i, (nx, ps))) (_ : z_catsum rest ≤ 8)
    (_ : G nx ls rest (z_s ws q1 (.inr (t1, (n2, .inl (z_cpy f g n)))))), G pc ls (.inl n :: .inl 0 :: .inr (.inr q1) :: .inl 0 :: .inr (.inr q0) :: rest) ws) ∧
  (∀ {pc : Nat} {ls l' : zL} {st : List zV} {ws : zW}, (∀ q ∈ l', q ∈ ls) → G pc l' st ws → G pc ls st ws) ∧
  (∀ {pc : Nat} {ls : zL} {st : List zV} {ws : zW}, (ws.length = n0 → G pc ls st ws) → G pc ls st ws) ∧
  (∀ {pc : Nat} {ls : zL} {st : List zV} {ws ws' : zW}, z_weq ws ws' → G pc ls st ws' → G pc ls st ws)
theorem zMet.of {y : zM} {As : List zV} {w : zW} {P : Option zV → zW → Prop} {own : String} (hyc : y.1.cls = own) (hyp : plainFor y.1 = true) {tb : List (Nat × zI)} {ft : List (Nat × (Nat × (Nat × Nat)))} {ct : List (Nat × Int) × List (Nat × Int)}
    (htb : tb.all (z_ent y.2.1 y.2.2.1) = true) (hft : z_fok own ft) (hct : z_cok own ct) (hA : z_catsum As ≤ y.2.2.1)
    (body : ∀ G : zG, z_rules y own tb ft ct P w.length G → G 0 (z_args 0 As) [] w) : zMet y As w P := by
  intro l D cA ad sz
  refine va_MetF (cc := y.2.1) (maxL := y.2.2.1) (ret := y.2.2.2.1) hyp rfl ?_
  intro p e s m args below meth c s₁ B hml hv
  obtain ⟨rfl, hsz, hP, hK, hN, hD0⟩ := hv
  have hts0 := atoms_spec (ws := z_ws y) B.pre
  have hts : ∀ w ∈ z_tbl, w.before (As.map (z_v ad)).toArray s = true := fun w hw => hts0 w (List.mem_cons_of_mem _ hw)
  have hown : s.vm.findClass own = some m.cls := by rw [← hyc]; exact findClass_of_methodNamed B.named
  subst hsz
  have hinj : ∀ i j : Nat, i < w.length → j < w.length → ad i = ad j → i = j := fun i j hi hj h =>
    hD0.1 i j _ _ (z_w_at (ad := ad) (cA := cA) (by rw [z_g_eq]; exact List.getElem?_eq_getElem hi)) (z_w_at (ad := ad) (cA := cA) (by rw [z_g_eq]; exact List.getElem?_eq_getElem hj)) h
  have hAd : ∀ k : Nat, k < w.length → va_A (z_w ad cA w) s.heap.size (ad k) := fun k hk => va_A.in (q := (ad k, _)) (z_w_at (ad := ad) (cA := cA) (by rw [z_g_eq]; exact List.getElem?_eq_getElem hk))
  have X : z_X p s m (As.map (z_v ad)).toArray c y.2.1 own D cA ad (va_A (z_w ad cA w) s.heap.size) w.length y.2.2.1 none := ⟨B.exec, B.bytes, hml, hown, hts, hK, hN, hinj, hAd, fun q h => Or.inr h, trivial⟩
  have hR : z_RR y.2.1 (z_Rr y.2.2.2.1 P) (z_G p l e (z_rm y) s m (As.map (z_v ad)).toArray below meth c 0 0 (MQ below (z_Qc D cA ad w s.heap.size P) (As.map (z_v ad)).toArray s 0 0 (va_A (z_w ad cA w) s.heap.size)) D cA ad (va_A (z_w ad cA w) s.heap.size) w.length y.2.2.1) := by
    refine ⟨fun pc ls x ws hd h hlen H locs ls' hP hS hl => ?_, fun pc ls x ws hd h hlen H locs ls' hP hS hl => ?_, fun pc ls ws hd h hlen H locs ls' hP hS hl => ?_⟩
    · obtain ⟨h1, h2⟩ := h
      have hq : ∀ t : State, t.heap = H → s.WarmedH t.vm → z_Qc D cA ad w s.heap.size P (As.map (z_v ad)).toArray s (.returned (some (.int (Int32.ofInt x)))) t := fun t ht hW => ⟨⟨some (.inl x), ws, rfl, h2, hlen, by rw [ht]; exact hP⟩, hS.F ht⟩
      have hr := B.returns
      cases hret : y.2.2.2.1 with
      | none => rw [hret] at h1; exact h1.elim
      | some ty =>
        rw [hret] at h1 hr
        cases ty
        case int => exact W.zret B.exec B.bytes hr rfl hq hS.2.2 hd (hlocks := B.notSynchronized)
        case boolean => exact W.zret B.exec B.bytes hr (by rcases h1 with rfl | rfl <;> decide) hq hS.2.2 hd (hlocks := B.notSynchronized)
        all_goals exact h1.elim
    · obtain ⟨h1, h2⟩ := h
      have hq : ∀ t : State, t.heap = H → s.WarmedH t.vm → z_Qc D cA ad w s.heap.size P (As.map (z_v ad)).toArray s (.returned (some (.long (Int64.ofInt x)))) t := fun t ht hW => ⟨⟨some (.inr (.inl x)), ws, rfl, h2, hlen, by rw [ht]; exact hP⟩, hS.F ht⟩
      have hr := B.returns
      cases hret : y.2.2.2.1 with
      | none => rw [hret] at h1; exact h1.elim
      | some ty =>
        rw [hret] at h1 hr
        cases ty
        case long => exact W.lret B.exec B.bytes hr hq hS.2.2 hd (hlocks := B.notSynchronized)
        all_goals exact h1.elim
    · obtain ⟨h1, h2⟩ := h
      have hq : ∀ t : State, t.heap = H → s.WarmedH t.vm → z_Qc D cA ad w s.heap.size P (As.map (z_v ad)).toArray s (.returned none) t := fun t ht hW => ⟨⟨none, ws, rfl, h2, hlen, by rw [ht]; exact hP⟩, hS.F ht⟩
      have hr := B.returns
      cases hret : y.2.2.2.1 with
      | some ty =>
        rw [hret] at h1
        cases ty <;> exact h1.elim
      | none =>
        rw [hret] at hr
        exact W.vret B.exec B.bytes hr hq hS.2.2 hd (hlocks := B.notSynchronized)
  have K := body _ ⟨fun stops n pc ls st ws h => z_go X htb hft hct hR stops n pc ls st ws h,
    @fun y' k0 As2 w' P' hM n ci i hy hlk hroom hn fs hk π hnd ws hw pc nx ps ls st rest hpc hst hcat kk => z_callV X htb ⟨Nat.zero_le _, Nat.zero_le _⟩ hM hy hlk hroom hn hk π hnd hw hpc hst hcat kk,
    @fun y' As2 w' P' hM n i hy hlk hroom hn π hnd ws hw pc nx ps ls st rest hpc hst hcat kk => z_callS X htb ⟨Nat.zero_le _, Nat.zero_le _⟩ hM hy hlk hroom hn π hnd hw hpc hst hcat kk,
    fun {i} hlk hroom {ws q0 q1 t0 t1 n1 n2 f g n} h0 h1 hn {pc nx ps ls rest} hpc hcat kk => z_copy X htb hlk hroom h0 h1 hn hpc hcat kk,
    fun {pc ls l' st ws} hs h hlen H locs ls' hP hS hl => h hlen H locs ls' hP hS (z_has_sub (fun q hq => by
      obtain ⟨u, hu, rfl⟩ := List.mem_map.mp hq
      exact List.mem_map.mpr ⟨u, hs u hu, rfl⟩) hl),
    fun {pc ls st ws} h hlen => h hlen hlen,
    fun {pc ls st ws ws'} hq h hlen H locs ls' hP hS hl => h (by rw [← (z_weq_at hq).1]; exact hlen) H locs ls' (z_weq_P hq hP) hS hl⟩
  rw [lg_entry_eq]
  have hl0 := lv_entry (As.map (z_v ad)) (n := y.2.2.1) (by rw [z_sl]; exact hA)
  exact K rfl s.heap [] _ hP va_S.rf (by rw [z_args_eq]; exact hl0)
