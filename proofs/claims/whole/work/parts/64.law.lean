/-! THE LAW: a run beside the cells, two calls side by side -/
def z_lwi : Instr → Bool
  | .iconst _ => true
  | .bipush _ => true
  | .ldc2_w _ => true
  | .iload_n _ => true
  | .aload_n _ => true
  | .iinc _ _ => true
  | .iadd => true
  | .isub => true
  | .iand => true
  | .land => true
  | .lor => true
  | .lshl => true
  | .i2l => true
  | .lcmp => true
  | .goto _ => true
  | .ifCond _ _ => true
  | .if_icmp _ _ => true
  | .iaload => true
  | .arraylength => true
  | .ireturn => true
  | .tableswitch _ _ _ _ => true
  | .invokevirtual _ => true
  | _ => false
theorem z_Bm {op : ClassFile.Cond} {x y : Int} {a b a' b' : Prop} (ha : a → a') (hb : b → b') (h : z_B op x y a b) : z_B op x y a' b' := by
  cases op <;> exact ⟨fun q => ha (h.1 q), fun q => hb (h.2 q)⟩
theorem z_swlm {K K' : Nat → Prop} (hK : ∀ t, K t → K' t) {x : Int} : ∀ {ts : List Nat} {lo : Int}, z_swl K x lo ts → z_swl K' x lo ts
  | [], _, h => h
  | t :: ts, lo, h => ⟨fun q => hK t (h.1 q), z_swlm hK h.2⟩
theorem z_swm {K K' : Nat → Prop} (hK : ∀ t, K t → K' t) {x lo hi : Int} : ∀ {ps : List Nat}, z_sw K x lo hi ps → z_sw K' x lo hi ps
  | [], h => h
  | d :: ts, h => ⟨fun q => hK d (h.1 q), z_swlm hK h.2⟩
set_option maxHeartbeats 4000000 in
theorem z_iE {tb : List (Nat × zI)} {ft : List (Nat × (Nat × (Nat × Nat)))} {ct : List (Nat × Int) × List (Nat × Int)} {sc : Option (Nat × (Int → Int))} {Rr0 Rr : Option zV → zW → Prop} {G0 G K0 K : zG} {ws : zW} (hz : z_g ws 9999 = none)
    (hR : ∀ v, Rr0 v [] → Rr v ws) (hG : ∀ pc ls st, G0 pc ls st [] → G pc ls st ws) (hK : ∀ pc ls st, K0 pc ls st [] → K pc ls st ws) {pc : Nat} {ls : zL} {st : List zV} {nx : Nat} {ps : List Nat} {ins : Instr} (hi : z_lwi ins = true)
    (h : z_i tb ft ct sc Rr0 G0 K0 pc ls st [] nx ps ins) : z_i tb ft ct sc Rr G K pc ls st ws nx ps ins := by
  cases ins
  case iconst n => exact hK _ _ _ h
  case bipush n => exact hK _ _ _ h
  case ldc2_w i =>
    dsimp only [z_i] at h ⊢
    split at h
    · rename_i v hv
      exact hK _ _ _ h
    · exact h.elim
  case iload_n n =>
    dsimp only [z_i] at h ⊢
    split at h
    · rename_i x hv
      exact hK _ _ _ h
    · exact h.elim
  case aload_n n =>
    dsimp only [z_i] at h ⊢
    split at h
    · rename_i x hv
      exact hK _ _ _ h
    · exact h.elim
  case iinc n d =>
    dsimp only [z_i] at h ⊢
    split at h
    · rename_i x hv
      exact hK _ _ _ h
    · exact h.elim
  case iadd =>
    obtain ⟨x, y, r, rfl, h⟩ := z_2e h
    exact hK _ _ _ h
  case isub =>
    obtain ⟨x, y, r, rfl, h⟩ := z_2e h
    exact hK _ _ _ h
  case iand =>
    obtain ⟨x, y, r, rfl, h⟩ := z_2e h
    exact hK _ _ _ h
  case land =>
    obtain ⟨x, y, r, rfl, h⟩ := z_L2e h
    exact hK _ _ _ h
  case lor =>
    obtain ⟨x, y, r, rfl, h⟩ := z_L2e h
    exact hK _ _ _ h
  case lshl =>
    obtain ⟨x, y, r, rfl, h⟩ := z_LIe h
    exact ⟨h.1, hK _ _ _ h.2⟩
  case i2l =>
    obtain ⟨x, r, rfl, h⟩ := z_1e h
    exact ⟨h.1, hK _ _ _ h.2⟩
  case lcmp =>
    obtain ⟨x, y, r, rfl, h1, h2⟩ := z_L2e h
    dsimp only [z_i, z_L2]
    refine ⟨h1, ?_⟩
    split at h2
    · rename_i op off nx2 ps2 hq
      exact z_Bm (fun q => hK _ _ _ q) (fun q => hK _ _ _ q) h2
    · exact h2.elim
  case goto off => exact hK _ _ _ h
  case ifCond op off =>
    obtain ⟨x, r, rfl, h⟩ := z_1e h
    exact ⟨h.1, z_Bm (fun q => hK _ _ _ q) (fun q => hK _ _ _ q) h.2⟩
  case if_icmp op off =>
    obtain ⟨x, y, r, rfl, h⟩ := z_2e h
    exact ⟨h.1, z_Bm (fun q => hK _ _ _ q) (fun q => hK _ _ _ q) h.2⟩
  case iaload =>
    dsimp only [z_i] at h ⊢
    split at h
    · rename_i i q r
      rw [show z_g ([] : zW) q = none from rfl] at h
      dsimp only at h
      split at h
      · obtain ⟨hq9, h⟩ := z_bif h
        have hq9 := Nat.eq_of_beq_eq_true hq9
        subst hq9
        rw [hz]
        exact ⟨h.1, hK _ _ _ h.2⟩
      · exact h.elim
    · exact h.elim
  case arraylength =>
    dsimp only [z_i] at h ⊢
    split at h
    · rename_i q r
      rw [show z_g ([] : zW) q = none from rfl] at h
      dsimp only at h
      split at h
      · obtain ⟨hq9, h⟩ := z_bif h
        have hq9 := Nat.eq_of_beq_eq_true hq9
        subst hq9
        rw [hz]
        exact hK _ _ _ h
      · exact h.elim
    · exact h.elim
  case ireturn =>
    dsimp only [z_i] at h ⊢
    split at h
    · exact hR _ h
    · exact h.elim
  case tableswitch d lo hi offs =>
    obtain ⟨x, r, rfl, h⟩ := z_1e h
    exact ⟨h.1, z_swm (fun t q => hK _ _ _ q) h.2⟩
  case invokevirtual i => exact hG _ _ _ h
  all_goals cases hi
theorem z_runE {tb : List (Nat × zI)} {ft : List (Nat × (Nat × (Nat × Nat)))} {ct : List (Nat × Int) × List (Nat × Int)} {sc : Option (Nat × (Int → Int))} {Rr0 Rr : Option zV → zW → Prop} {G0 G : zG} {ws : zW} (hz : z_g ws 9999 = none)
    (hR : ∀ v, Rr0 v [] → Rr v ws) (hG : ∀ pc ls st, G0 pc ls st [] → G pc ls st ws) (htb : tb.all (fun q => z_lwi q.2.1) = true) (stops : List Nat) :
    ∀ (n : Nat) (pc : Nat) (ls : zL) (st : List zV), z_run tb ft ct sc Rr0 stops G0 n pc ls st [] → z_run tb ft ct sc Rr stops G n pc ls st ws
  | 0, pc, ls, st, h => hG _ _ _ h
  | n + 1, pc, ls, st, h => by
    unfold z_run at h ⊢
    split at h
    · exact h.elim
    · rename_i q hq
      refine z_iE hz hR hG (fun pc' ls' st' hk => ?_) (List.all_eq_true.mp htb _ (z_a_mem hq)) h
      cases hs : z_in pc' stops with
      | true => rw [hs] at hk; exact hG _ _ _ hk
      | false => rw [hs] at hk; exact z_runE hz hR hG htb stops n pc' ls' st' hk
theorem z_gno {ws : zW} (h : ws.length ≤ 9999) : z_g ws 9999 = none := by
  rw [z_g_eq]; exact List.getElem?_eq_none h
/-- the rules of the law's body -/
def zLaw (sc : Nat × (Int → Int)) (G : zG) : Prop :=
  (∀ (tb : List (Nat × zI)) (_ : tb.all (z_ent code 4) = true) (_ : tb.all (fun q => z_lwi q.2.1) = true) (stops : List Nat) (n pc : Nat) (ls : zL) (st : List zV) (ws : zW) (_ : z_g ws 9999 = none), z_run tb [] ([], [(39, 4294967295)]) (some sc) (fun v _ => v = some (.inl 1)) stops (fun pc ls st _ => G pc ls st ws) n pc ls st [] → G pc ls st ws) ∧
  (∀ (tb : List (Nat × zI)) (_ : tb.all (z_ent code 4) = true) {y' : zM} {k0 : Nat} {As : List zV} {w' : zW} {P' : Option zV → zW → Prop} (_ : zMet y' (.inr (.inr k0) :: As) w' P') {n ci i : Nat} (_ : z_yV y' n ci) (_ : Cond.methodLink "FarthestPaysLaw" i y'.1 ∈ z_tbl)
    (_ : y'.2.2.2.2.1 + 1 ≤ 12 ∧ 8 + (y'.2.2.1 + 11) + y'.2.2.2.2.2 ≤ 478) (_ : As.length = n) {fs : List zV} (_ : z_g w' k0 = some (.inl (ci, fs)))
    (π : List Nat) (_ : π.Nodup) {ws : zW} (_ : π.map (z_g ws) = w'.map (fun c => some (z_ren π c))) {pc nx : Nat} {ps : List Nat} {ls : zL} {st rest : List zV} (_ : z_a tb pc = some (.invokevirtual i, (nx, ps)))
    (_ : st = (As.map (z_rv π)).reverse ++ .inr (.inr (z_pl π k0)) :: rest) (_ : z_catsum rest ≤ 8)
    (_ : ∀ v w2, P' v w2 → w2.length = w'.length → G nx ls ((v.map (z_rv π)).toList ++ rest) (z_sct π π w2 ws)), G pc ls st ws)
def zLW (wF wM : zW) : zW := wF ++ wM.map (z_ren (List.range' 107 15))
theorem zLW_pickF {wF wM : zW} (h : wF.length = 107) : (List.range' 0 107).map (z_g (zLW wF wM)) = wF.map (fun c => some (z_ren (List.range' 0 107) c)) := by
  have h1 := z_emb (z_ren (List.range' 0 107)) (wM.map (z_ren (List.range' 107 15))) wF []
  have h2 : wF.map (z_ren (List.range' 0 107)) = wF := by
    rw [List.map_congr_left (fun c _ => z_ren_id 106 c), List.map_id']
  rw [h2, h] at h1
  exact h1
theorem zLW_backF {wF wM w2 : zW} (h : wF.length = 107) (h2 : w2.length = wF.length) : z_sct (List.range' 0 107) (List.range' 0 107) w2 (zLW wF wM) = zLW w2 wM := by
  have h1 := z_embb (List.range' 0 107) (wM.map (z_ren (List.range' 107 15))) w2 wF [] h2.symm
  have h3 : w2.map (z_ren (List.range' 0 107)) = w2 := by
    rw [List.map_congr_left (fun c _ => z_ren_id 106 c), List.map_id']
  rw [h3, h2, h] at h1
  exact h1
theorem zLW_pickM {wF wM : zW} (h : wF.length = 107) (hm : wM.length = 15) : (List.range' 107 15).map (z_g (zLW wF wM)) = wM.map (fun c => some (z_ren (List.range' 107 15) c)) := by
  have h1 := z_emb (z_ren (List.range' 107 15)) [] wM wF
  rw [h, hm, List.append_nil] at h1
  exact h1
theorem zLW_backM {wF wM w2 : zW} (h : wF.length = 107) (hm : wM.length = 15) (h2 : w2.length = wM.length) : z_sct (List.range' 107 15) (List.range' 107 15) w2 (zLW wF wM) = zLW wF w2 := by
  have h1 := z_embb (List.range' 107 15) [] w2 (wM.map (z_ren (List.range' 107 15))) wF (by rw [List.length_map]; exact h2.symm)
  rw [h, h2, hm, List.append_nil, List.append_nil] at h1
  exact h1
theorem zLW_len {wF wM : zW} (h : wF.length = 107) (hm : wM.length = 15) : (zLW wF wM).length = 122 := by
  unfold zLW
  rw [List.length_append, List.length_map, h, hm]
theorem zInv_in {wF wM : zW} (hI : zInv wF wM) : (∃ fs, z_g wF 0 = some (.inl (6, fs))) ∧ (∃ fs, z_g wM 0 = some (.inl (7, fs))) ∧ wF.length = 107 ∧ wM.length = 15 := by
  obtain ⟨img, w, ks, ss, n, who, ties, su, cs, sz, w', ks', ss', n', who', ties', su', cs', sz', b, tn, tp, fl, rs, rc, sh, w2, ks2, ss2, la, su2, nm, np, ns, tp2, pl, rs2, rd2, lp, ik, kp, km, kn, ln, rz, it, rfl, rfl, _⟩ := hI
  exact ⟨⟨_, rfl⟩, ⟨_, rfl⟩, rfl, rfl⟩
theorem z_nd0 : (List.range' 0 107).Nodup := by decide +kernel
theorem z_nd1 : (List.range' 107 15).Nodup := by decide +kernel
section Lw
variable {sc : Nat × (Int → Int)} {G : zG} {tb : List (Nat × zI)} {mF mM : zM} {As : List zV} {wF wM : zW} {n iF iM : Nat} {ls : zL} {p0 pF nF pM nM : Nat} {psF psM : List Nat}
theorem lw_two (hL : zLaw sc G) (htb : tb.all (z_ent code 4) = true) (hI : zInv wF wM) (hd : zDual mF mM As wF wM) (hyF : z_yV mF n 6) (hyM : z_yV mM n 7) (hlF : Cond.methodLink "FarthestPaysLaw" iF mF.1 ∈ z_tbl) (hlM : Cond.methodLink "FarthestPaysLaw" iM mM.1 ∈ z_tbl)
    (hrF : mF.2.2.2.2.1 + 1 ≤ 12 ∧ 8 + (mF.2.2.1 + 11) + mF.2.2.2.2.2 ≤ 478) (hrM : mM.2.2.2.2.1 + 1 ≤ 12 ∧ 8 + (mM.2.2.1 + 11) + mM.2.2.2.2.2 ≤ 478) (hn : As.length = n) (hAs : ∀ π, As.map (z_rv π) = As)
    (hpF : z_a tb pF = some (.invokevirtual iF, (nF, psF))) (hpM : z_a tb pM = some (.invokevirtual iM, (nM, psM)))
    (r1 : ∀ ws, z_g ws 9999 = none → G pF ls (As.reverse ++ [.inr (.inr 0)]) ws → G p0 ls [] ws)
    (r2 : ∀ r ws, z_g ws 9999 = none → G pM ls (As.reverse ++ [.inr (.inr 107), .inl r]) ws → G nF ls [.inl r] ws)
    (r3 : ∀ r ws, (-2147483648 ≤ r ∧ r ≤ 2147483647) → z_g ws 9999 = none → G 1149 ls [] ws → G nM ls [.inl r, .inl r] ws)
    (kk : ∀ wa wb, zInv wa wb → G 1149 ls [] (zLW wa wb)) : G p0 ls [] (zLW wF wM) := by
  obtain ⟨PF, PM, hF, hM, hsh, hsame⟩ := hd
  obtain ⟨⟨fF, gF⟩, ⟨fM, gM⟩, lF, lM⟩ := zInv_in hI
  have h9 : ∀ wa, wa.length = wF.length → z_g (zLW wa wM) 9999 = none := fun wa h => z_gno (by rw [zLW_len (h.trans lF) lM]; omega)
  refine r1 _ (h9 _ rfl) (hL.2 tb htb hF hyF hlF hrF hn gF (List.range' 0 107) z_nd0 (zLW_pickF lF) hpF (rest := []) (by rw [hAs]; rfl) (Nat.zero_le _) (fun v wa hv hla => ?_))
  obtain ⟨r, rfl⟩ := hsh v wa hv
  rw [zLW_backF lF hla]
  refine r2 r _ (h9 wa hla) (hL.2 tb htb hM hyM hlM hrM hn gM (List.range' 107 15) z_nd1 (zLW_pickM (hla.trans lF) lM) hpM (rest := [.inl r]) (by rw [hAs]; rfl) (Nat.le_of_ble_eq_true rfl) (fun v2 wb hv2 hlb => ?_))
  obtain ⟨⟨r', hr, e1, e2⟩, hI2⟩ := hsame _ wa v2 wb hv hv2
  obtain rfl : r = r' := by cases e1; rfl
  subst e2
  rw [zLW_backM (hla.trans lF) lM hlb]
  exact r3 r _ hr (z_gno (by rw [zLW_len (hla.trans lF) (hlb.trans lM)]; omega)) (kk wa wb hI2)
theorem lw_twoL (hL : zLaw sc G) (htb : tb.all (z_ent code 4) = true) (hI : zInv wF wM) (hd : zDuaL mF mM As wF wM) (hyF : z_yV mF n 6) (hyM : z_yV mM n 7) (hlF : Cond.methodLink "FarthestPaysLaw" iF mF.1 ∈ z_tbl) (hlM : Cond.methodLink "FarthestPaysLaw" iM mM.1 ∈ z_tbl)
    (hrF : mF.2.2.2.2.1 + 1 ≤ 12 ∧ 8 + (mF.2.2.1 + 11) + mF.2.2.2.2.2 ≤ 478) (hrM : mM.2.2.2.2.1 + 1 ≤ 12 ∧ 8 + (mM.2.2.1 + 11) + mM.2.2.2.2.2 ≤ 478) (hn : As.length = n) (hAs : ∀ π, As.map (z_rv π) = As)
    (hpF : z_a tb pF = some (.invokevirtual iF, (nF, psF))) (hpM : z_a tb pM = some (.invokevirtual iM, (nM, psM)))
    (r1 : ∀ ws, z_g ws 9999 = none → G pF ls (As.reverse ++ [.inr (.inr 0)]) ws → G p0 ls [] ws)
    (r2 : ∀ r ws, z_g ws 9999 = none → G pM ls (As.reverse ++ [.inr (.inr 107), .inr (.inl r)]) ws → G nF ls [.inr (.inl r)] ws)
    (r3 : ∀ r ws, (-9223372036854775808 ≤ r ∧ r ≤ 9223372036854775807) → z_g ws 9999 = none → G 1149 ls [] ws → G nM ls [.inr (.inl r), .inr (.inl r)] ws)
    (kk : ∀ wa wb, zInv wa wb → G 1149 ls [] (zLW wa wb)) : G p0 ls [] (zLW wF wM) := by
  obtain ⟨PF, PM, hF, hM, hsh, hsame⟩ := hd
  obtain ⟨⟨fF, gF⟩, ⟨fM, gM⟩, lF, lM⟩ := zInv_in hI
  have h9 : ∀ wa, wa.length = wF.length → z_g (zLW wa wM) 9999 = none := fun wa h => z_gno (by rw [zLW_len (h.trans lF) lM]; omega)
  refine r1 _ (h9 _ rfl) (hL.2 tb htb hF hyF hlF hrF hn gF (List.range' 0 107) z_nd0 (zLW_pickF lF) hpF (rest := []) (by rw [hAs]; rfl) (Nat.zero_le _) (fun v wa hv hla => ?_))
  obtain ⟨r, rfl⟩ := hsh v wa hv
  rw [zLW_backF lF hla]
  refine r2 r _ (h9 wa hla) (hL.2 tb htb hM hyM hlM hrM hn gM (List.range' 107 15) z_nd1 (zLW_pickM (hla.trans lF) lM) hpM (rest := [.inr (.inl r)]) (by rw [hAs]; rfl) (Nat.le_of_ble_eq_true rfl) (fun v2 wb hv2 hlb => ?_))
  obtain ⟨⟨r', hr, e1, e2⟩, hI2⟩ := hsame _ wa v2 wb hv hv2
  obtain rfl : r = r' := by cases e1; rfl
  subst e2
  rw [zLW_backM (hla.trans lF) lM hlb]
  exact r3 r _ hr (z_gno (by rw [zLW_len (hla.trans lF) (hlb.trans lM)]; omega)) (kk wa wb hI2)
end Lw
theorem z_orL_in (x y : Int) : -9223372036854775808 ≤ z_orL x y ∧ z_orL x y ≤ 9223372036854775807 := by
  have h1 := Int64.le_toInt (Int64.ofInt x ||| Int64.ofInt y)
  have h2 := Int64.toInt_lt (Int64.ofInt x ||| Int64.ofInt y)
  unfold z_orL
  omega
