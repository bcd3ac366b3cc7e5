/-! TABLE.COPYFROM, image, restore -/
theorem z_weq_sym : ∀ {a b : zW}, z_weq a b → z_weq b a
  | [], [], _ => trivial
  | [], _ :: _, h => h.elim
  | _ :: _, [], h => h.elim
  | c :: a, d :: b, h => ⟨by
      rcases h.1 with rfl | ⟨t, n, f, f', h1, h2, h3⟩
      · exact Or.inl rfl
      · exact Or.inr ⟨t, n, f', f, h2, h1, fun j hj => (h3 j hj).symm⟩, z_weq_sym h.2⟩
theorem zCoCB_weq {φ ψ : Nat → Nat} {o o2 : Nat} {c : zCD} (h1 : φ (o + 1) = ψ (o2 + 1)) (h2 : φ (o + 2) = ψ (o2 + 2)) : z_weq ((zCoC o c).map (z_rf φ)) ((zCoC o2 c).map (z_rf ψ)) := by
  have e : (zCoC o c).map (z_rf φ) = (zCoC o2 c).map (z_rf ψ) := by
    simp only [zCoC, List.map, z_rf, z_rfv, h1, h2]
  rw [e]; exact z_weq_rf _
abbrev wNiB (su' : Int → Int) (cs' : Nat → zCD) (sz' : Nat) : zW := .inl (1, [.inr (.inr 40), .inr (.inr 41), .inl (sz' : Int)]) :: .inr (0, (12, .inl su')) :: .inr (0, (12, .inr (.inr (fun j => 42 + 3 * j.toNat)))) :: zCos2 cs'
theorem wnB_weq {φ ψ : Nat → Nat} {su : Int → Int} {cs : Nat → zCD} {sz : Nat} (h : ∀ k, k < 39 → φ (39 + k) = ψ k) : z_weq ((wNiB su cs sz).map (z_rf φ)) ((wNi su cs sz).map (z_rf ψ)) := by
  refine ⟨Or.inl ?_, Or.inl rfl, Or.inr ⟨0, 12, fun j => φ (42 + 3 * j.toNat), fun j => ψ (3 + 3 * j.toNat), rfl, rfl, fun j hj => ?_⟩, ?_⟩
  · have h1 : φ 40 = ψ 1 := h 1 (by omega)
    have h2 : φ 41 = ψ 2 := h 2 (by omega)
    simp only [z_rf, z_rfv, List.map, h1, h2]
  · have := h (3 + 3 * j) (by omega)
    rw [show 39 + (3 + 3 * j) = 42 + 3 * j by omega] at this
    exact this
  · unfold zCos zCos2
    simp only [List.map_append]
    exact z_weq_app (zCoCB_weq (o := 42) (o2 := 3) (h 4 (by omega)) (h 5 (by omega))) (z_weq_app (zCoCB_weq (o := 45) (o2 := 6) (h 7 (by omega)) (h 8 (by omega))) (z_weq_app (zCoCB_weq (o := 48) (o2 := 9) (h 10 (by omega)) (h 11 (by omega))) (z_weq_app (zCoCB_weq (o := 51) (o2 := 12) (h 13 (by omega)) (h 14 (by omega))) (z_weq_app (zCoCB_weq (o := 54) (o2 := 15) (h 16 (by omega)) (h 17 (by omega))) (z_weq_app (zCoCB_weq (o := 57) (o2 := 18) (h 19 (by omega)) (h 20 (by omega))) (z_weq_app (zCoCB_weq (o := 60) (o2 := 21) (h 22 (by omega)) (h 23 (by omega))) (z_weq_app (zCoCB_weq (o := 63) (o2 := 24) (h 25 (by omega)) (h 26 (by omega))) (z_weq_app (zCoCB_weq (o := 66) (o2 := 27) (h 28 (by omega)) (h 29 (by omega))) (z_weq_app (zCoCB_weq (o := 69) (o2 := 30) (h 31 (by omega)) (h 32 (by omega))) (z_weq_app (zCoCB_weq (o := 72) (o2 := 33) (h 34 (by omega)) (h 35 (by omega))) (zCoCB_weq (o := 75) (o2 := 36) (h 37 (by omega)) (h 38 (by omega)))))))))))))
section Tc
variable {img : Int} {w ks ss : Int → Int} {n : Nat} {who ties : Int} {su : Int → Int} {cs : Nat → zCD} {sz : Nat} {w' ks' ss' : Int → Int} {n' : Nat} {who' ties' : Int} {su' : Int → Int} {cs' : Nat → zCD} {sz' : Nat} {tl : zW}
abbrev wTT (w ks ss : Int → Int) (n : Nat) (who ties : Int) (su : Int → Int) (cs : Nat → zCD) (sz : Nat) (w' ks' ss' : Int → Int) (n' : Nat) (who' ties' : Int) (su' : Int → Int) (cs' : Nat → zCD) (sz' : Nat) : zW :=
  wTa w ks ss n who ties ++ ((wNi su cs sz).map (z_ren (List.range' 6 39)) ++ ((wTa w' ks' ss' n' who' ties').map (z_ren (List.range' 45 6)) ++ (wNi su' cs' sz').map (z_ren (List.range' 51 39))))
abbrev wTTA (w ks ss : Int → Int) (n : Nat) (who ties : Int) (su : Int → Int) (cs : Nat → zCD) (sz : Nat) (w' ks' ss' : Int → Int) (n' : Nat) (who' ties' : Int) (su' : Int → Int) (cs' : Nat → zCD) (sz' : Nat) : zW :=
  wTa w ks ss n who ties ++ ((wNi su cs sz).map (z_ren (List.range' 6 39 ++ List.range' 51 39)) ++ ((wTa w' ks' ss' n' who' ties').map (z_ren (List.range' 45 6)) ++ (wNiB su' cs' sz').map (z_ren (List.range' 6 39 ++ List.range' 51 39))))
theorem tt_weq1 : z_weq (wTT w ks ss n who ties su cs sz w' ks' ss' n' who' ties' su' cs' sz') (wTTA w ks ss n who ties su cs sz w' ks' ss' n' who' ties' su' cs' sz') := by
  refine z_weq_app (z_weq_rf _) (z_weq_app ?_ (z_weq_app (z_weq_rf _) ?_))
  · rw [z_ren_map, z_ren_map]
    exact wn_weq (fun k hk => by rw [zp_rg hk, zp_app hk])
  · rw [z_ren_map, z_ren_map]
    exact z_weq_sym (wnB_weq (fun k hk => by rw [zp_rg hk, zp_app2 hk]))
theorem tt_weq2 : z_weq (wTTA w ks ss n who ties su cs sz w' ks' ss' n' who' ties' su' cs' sz') (wTT w ks ss n who ties su cs sz w' ks' ss' n' who' ties' su' cs' sz') := z_weq_sym tt_weq1
theorem tt_pick : (List.range' 6 39 ++ List.range' 51 39).map (z_g (wTTA w ks ss n who ties su cs sz w' ks' ss' n' who' ties' su' cs' sz')) = (wNi2 su cs sz su' cs' sz').map (fun c => some (z_ren (List.range' 6 39 ++ List.range' 51 39) c)) := by
  have h1 := z_emb (z_ren (List.range' 6 39 ++ List.range' 51 39)) ((wTa w' ks' ss' n' who' ties').map (z_ren (List.range' 45 6)) ++ (wNiB su' cs' sz').map (z_ren (List.range' 6 39 ++ List.range' 51 39))) (wNi su cs sz) (wTa w ks ss n who ties)
  have h2 := z_emb (z_ren (List.range' 6 39 ++ List.range' 51 39)) [] (wNiB su' cs' sz') (wTa w ks ss n who ties ++ ((wNi su cs sz).map (z_ren (List.range' 6 39 ++ List.range' 51 39)) ++ (wTa w' ks' ss' n' who' ties').map (z_ren (List.range' 45 6))))
  rw [List.append_nil, List.append_assoc, List.append_assoc] at h2
  have e : wNi2 su cs sz su' cs' sz' = wNi su cs sz ++ wNiB su' cs' sz' := rfl
  rw [e, List.map_append, List.map_append]
  exact congr (congrArg (· ++ ·) h1) h2
theorem tt_back {sua : Int → Int} {csa : Nat → zCD} {sza : Nat} : z_sct (List.range' 6 39 ++ List.range' 51 39) (List.range' 6 39 ++ List.range' 51 39) (wNi2 sua csa sza su' cs' sz') (wTTA w ks ss n who ties su cs sz w' ks' ss' n' who' ties' su' cs' sz') = wTTA w ks ss n who ties sua csa sza w' ks' ss' n' who' ties' su' cs' sz' := by
  have h1 := z_embb (List.range' 6 39 ++ List.range' 51 39) ((wTa w' ks' ss' n' who' ties').map (z_ren (List.range' 45 6)) ++ (wNiB su' cs' sz').map (z_ren (List.range' 6 39 ++ List.range' 51 39))) (wNi sua csa sza) ((wNi su cs sz).map (z_ren (List.range' 6 39 ++ List.range' 51 39))) (wTa w ks ss n who ties) rfl
  have h2 := z_embb (List.range' 6 39 ++ List.range' 51 39) [] (wNiB su' cs' sz') ((wNiB su' cs' sz').map (z_ren (List.range' 6 39 ++ List.range' 51 39))) (wTa w ks ss n who ties ++ ((wNi sua csa sza).map (z_ren (List.range' 6 39 ++ List.range' 51 39)) ++ (wTa w' ks' ss' n' who' ties').map (z_ren (List.range' 45 6)))) rfl
  rw [List.append_nil, List.append_assoc, List.append_assoc] at h2
  have e : wNi2 sua csa sza su' cs' sz' = wNi sua csa sza ++ wNiB su' cs' sz' := rfl
  rw [e, z_sct_app _ (List.range' 6 39) (List.range' 51 39) (wNi sua csa sza) _ _ rfl]
  have h3 : z_sct (List.range' 6 39 ++ List.range' 51 39) (List.range' 6 39) (wNi sua csa sza) (wTTA w ks ss n who ties su cs sz w' ks' ss' n' who' ties' su' cs' sz') = wTTA w ks ss n who ties sua csa sza w' ks' ss' n' who' ties' su' cs' sz' := h1
  rw [h3]
  exact h2
theorem c_Ta_copyFrom (hz : sz' ≤ 12) :
    zMet m_Ta_copyFrom [.inr (.inr 0), .inr (.inr 45)] (wTT w ks ss n who ties su cs sz w' ks' ss' n' who' ties' su' cs' sz') (fun v wd => v = none ∧ wd = wTT (z_cpy w' w 21) (z_cpy ks' ks 9) (z_cpy ss' ss 9) n' who' ties' (zMx su' su sz') (zMxC cs cs' sz') sz' w' ks' ss' n' who' ties' su' cs' sz') := by
  refine zMet.of (own := RX4) rfl (by decide +kernel) tk_Ta_copyFrom fok_Ta cok_Ta (Nat.le_of_ble_eq_true rfl) (fun G hG => ?_)
  refine hG.1 [] 80 _ _ _ _ ?_
  refine hG.2.1 (c_Su_copyFrom (w := w) (w' := w')) yv_Su_copyFrom lk_Ta_32 (by decide +kernel) rfl rfl [1, 2, 46, 47] (by decide +kernel) rfl rfl rfl (Nat.le_of_ble_eq_true rfl) (fun v w2 hv hl2 => ?_)
  obtain ⟨rfl, rfl⟩ := hv
  change G _ _ _ (wTT (z_cpy w' w 21) ks ss n who ties su cs sz w' ks' ss' n' who' ties' su' cs' sz')
  refine hG.1 [] 80 _ _ _ _ ?_
  refine hG.2.1 (c_Co_copyFrom (ks := ks) (ss := ss) (n := n) (who := who) (ties := ties) (ks' := ks') (ss' := ss') (n' := n') (who' := who') (ties' := ties')) yv_Co_copyFrom lk_Ta_36 (by decide +kernel) rfl rfl [3, 4, 5, 48, 49, 50] (by decide +kernel) rfl rfl rfl (Nat.le_of_ble_eq_true rfl) (fun v w2 hv hl2 => ?_)
  obtain ⟨rfl, rfl⟩ := hv
  change G _ _ _ (wTT (z_cpy w' w 21) (z_cpy ks' ks 9) (z_cpy ss' ss 9) n' who' ties' su cs sz w' ks' ss' n' who' ties' su' cs' sz')
  refine hG.1 [] 80 _ _ _ _ ?_
  refine hG.2.2.2.2.2.2 tt_weq1 ?_
  refine hG.2.1 (c_Ni_copyFrom (su := su) (cs := cs) (sz := sz) (su' := su') (cs' := cs') (sz' := sz') hz) yv_Ni_copyFrom lk_Ta_39 (by decide +kernel) rfl rfl (List.range' 6 39 ++ List.range' 51 39) (by decide +kernel) tt_pick rfl rfl (Nat.le_of_ble_eq_true rfl) (fun v w2 hv hl2 => ?_)
  obtain ⟨rfl, rfl⟩ := hv
  rw [tt_back]
  refine hG.2.2.2.2.2.2 tt_weq2 ?_
  refine hG.1 [] 80 _ _ _ _ ?_
  exact ⟨trivial, rfl, rfl⟩
abbrev zKs (w' ks' ss' : Int → Int) (n' : Nat) (who' ties' : Int) (su' : Int → Int) (cs' : Nat → zCD) (sz' : Nat) (tl : zW) : zW := (wTa w' ks' ss' n' who' ties').map (z_ren (List.range' 46 6)) ++ ((wNi su' cs' sz').map (z_ren (List.range' 52 39)) ++ tl)
abbrev zRoot (img : Int) : zC := .inl (6, [.inr (.inr 1), .inr (.inr 46), .inl img, .inr (.inr 91), .inr (.inr 93), .inr (.inr 95), .inr (.inr 98)])
-- a table's cells as the first, as the second of two
abbrev zTA (w ks ss : Int → Int) (n : Nat) (who ties : Int) (su : Int → Int) (cs : Nat → zCD) (sz : Nat) : zW := wTa w ks ss n who ties ++ (wNi su cs sz).map (z_ren (List.range' 6 39))
abbrev zTBB (w ks ss : Int → Int) (n : Nat) (who ties : Int) (su : Int → Int) (cs : Nat → zCD) (sz : Nat) : zW := (wTa w ks ss n who ties).map (z_ren (List.range' 45 6)) ++ (wNi su cs sz).map (z_ren (List.range' 51 39))
theorem tt_split : wTT w ks ss n who ties su cs sz w' ks' ss' n' who' ties' su' cs' sz' = zTA w ks ss n who ties su cs sz ++ zTBB w' ks' ss' n' who' ties' su' cs' sz' := by
  unfold wTT zTA zTBB
  rw [List.append_assoc]
theorem seg_weq {a : Nat} {π : List Nat} {σ1 σ2 ρ1 ρ2 : List Nat} (h1 : ∀ k, k < 7 → z_pl π (z_pl σ1 k) = z_pl ρ1 k) (h2 : ∀ k, k < 39 → z_pl π (z_pl σ2 k) = z_pl ρ2 k) :
    z_weq (((wTa w ks ss n who ties).map (z_ren σ1) ++ (wNi su cs sz).map (z_ren σ2)).map (z_ren π)) ((wTa w ks ss n who ties).map (z_ren ρ1) ++ (wNi su cs sz).map (z_ren ρ2)) := by
  rw [List.map_append]
  simp only [z_ren_map, z_rf_map]
  refine z_weq_app ?_ (wn_weq h2)
  rw [wt_eq h1]
  exact z_weq_rf _
theorem seg_weq0 {π : List Nat} {σ2 ρ1 ρ2 : List Nat} (h1 : ∀ k, k < 7 → z_pl π k = z_pl ρ1 k) (h2 : ∀ k, k < 39 → z_pl π (z_pl σ2 k) = z_pl ρ2 k) :
    z_weq ((wTa w ks ss n who ties ++ (wNi su cs sz).map (z_ren σ2)).map (z_ren π)) ((wTa w ks ss n who ties).map (z_ren ρ1) ++ (wNi su cs sz).map (z_ren ρ2)) := by
  rw [List.map_append]
  simp only [z_ren_map, z_rf_map]
  refine z_weq_app ?_ (wn_weq h2)
  rw [wt_eq h1]
  exact z_weq_rf _
abbrev πI : List Nat := List.range' 46 45 ++ List.range' 1 45
abbrev πR : List Nat := List.range' 1 45 ++ List.range' 46 45
abbrev wIm (img : Int) (w ks ss : Int → Int) (n : Nat) (who ties : Int) (su : Int → Int) (cs : Nat → zCD) (sz : Nat) (w' ks' ss' : Int → Int) (n' : Nat) (who' ties' : Int) (su' : Int → Int) (cs' : Nat → zCD) (sz' : Nat) (tl : zW) : zW := [zRoot img] ++ ((zTBB w ks ss n who ties su cs sz).map (z_ren πI) ++ ((zTA w' ks' ss' n' who' ties' su' cs' sz').map (z_ren πI) ++ tl))
abbrev wRe (img : Int) (w ks ss : Int → Int) (n : Nat) (who ties : Int) (su : Int → Int) (cs : Nat → zCD) (sz : Nat) (w' ks' ss' : Int → Int) (n' : Nat) (who' ties' : Int) (su' : Int → Int) (cs' : Nat → zCD) (sz' : Nat) (tl : zW) : zW := [zRoot img] ++ ((zTA w ks ss n who ties su cs sz).map (z_ren πR) ++ ((zTBB w' ks' ss' n' who' ties' su' cs' sz').map (z_ren πR) ++ tl))
theorem fp_split : wFp img w ks ss n who ties su cs sz (zKs w' ks' ss' n' who' ties' su' cs' sz' tl) = [zRoot img] ++ (((wTa w ks ss n who ties).map (z_ren [1, 2, 3, 4, 5, 6]) ++ (wNi su cs sz).map (z_ren (List.range' 7 39))) ++ (((wTa w' ks' ss' n' who' ties').map (z_ren (List.range' 46 6)) ++ (wNi su' cs' sz').map (z_ren (List.range' 52 39))) ++ tl)) := by
  unfold wFp zKs
  simp only [List.append_assoc, List.cons_append, List.nil_append]
theorem im_weq : z_weq (wIm img w ks ss n who ties su cs sz w' ks' ss' n' who' ties' su' cs' sz' tl) (wFp img w ks ss n who ties su cs sz (zKs w' ks' ss' n' who' ties' su' cs' sz' tl)) := by
  rw [fp_split]
  exact z_weq_app (z_weq_rf _) (z_weq_app (seg_weq (a := 0) (by decide +kernel) (by decide +kernel)) (z_weq_app (seg_weq0 (by decide +kernel) (by decide +kernel)) (z_weq_rf _)))
theorem re_weq : z_weq (wRe img w ks ss n who ties su cs sz w' ks' ss' n' who' ties' su' cs' sz' tl) (wFp img w ks ss n who ties su cs sz (zKs w' ks' ss' n' who' ties' su' cs' sz' tl)) := by
  rw [fp_split]
  exact z_weq_app (z_weq_rf _) (z_weq_app (seg_weq0 (by decide +kernel) (by decide +kernel)) (z_weq_app (seg_weq (a := 0) (by decide +kernel) (by decide +kernel)) (z_weq_rf _)))
theorem im_pick : πI.map (z_g (wIm img w ks ss n who ties su cs sz w' ks' ss' n' who' ties' su' cs' sz' tl)) = (wTT w' ks' ss' n' who' ties' su' cs' sz' w ks ss n who ties su cs sz).map (fun c => some (z_ren πI c)) := by
  have h1 := z_emb (z_ren πI) tl (zTA w' ks' ss' n' who' ties' su' cs' sz') ([zRoot img] ++ (zTBB w ks ss n who ties su cs sz).map (z_ren πI))
  have h2 := z_emb (z_ren πI) ((zTA w' ks' ss' n' who' ties' su' cs' sz').map (z_ren πI) ++ tl) (zTBB w ks ss n who ties su cs sz) [zRoot img]
  rw [List.append_assoc] at h1
  rw [tt_split, List.map_append, List.map_append]
  exact congr (congrArg (· ++ ·) h1) h2
theorem im_back {wa ksa ssa : Int → Int} {na : Nat} {whoa tiesa : Int} {sua : Int → Int} {csa : Nat → zCD} {sza : Nat} : z_sct πI πI (wTT wa ksa ssa na whoa tiesa sua csa sza w ks ss n who ties su cs sz) (wIm img w ks ss n who ties su cs sz w' ks' ss' n' who' ties' su' cs' sz' tl) = wIm img w ks ss n who ties su cs sz wa ksa ssa na whoa tiesa sua csa sza tl := by
  have h1 := z_embb πI tl (zTA wa ksa ssa na whoa tiesa sua csa sza) ((zTA w' ks' ss' n' who' ties' su' cs' sz').map (z_ren πI)) ([zRoot img] ++ (zTBB w ks ss n who ties su cs sz).map (z_ren πI)) rfl
  have h2 := z_embb πI ((zTA wa ksa ssa na whoa tiesa sua csa sza).map (z_ren πI) ++ tl) (zTBB w ks ss n who ties su cs sz) ((zTBB w ks ss n who ties su cs sz).map (z_ren πI)) [zRoot img] rfl
  simp only [List.append_assoc] at h1
  rw [tt_split]
  show z_sct πI (List.range' 46 45 ++ List.range' 1 45) _ _ = _
  rw [z_sct_app _ (List.range' 46 45) (List.range' 1 45) (zTA wa ksa ssa na whoa tiesa sua csa sza) _ _ rfl]
  have h3 : z_sct πI (List.range' 46 45) (zTA wa ksa ssa na whoa tiesa sua csa sza) (wIm img w ks ss n who ties su cs sz w' ks' ss' n' who' ties' su' cs' sz' tl) = wIm img w ks ss n who ties su cs sz wa ksa ssa na whoa tiesa sua csa sza tl := h1
  rw [h3]
  exact h2
theorem re_pick : πR.map (z_g (wRe img w ks ss n who ties su cs sz w' ks' ss' n' who' ties' su' cs' sz' tl)) = (wTT w ks ss n who ties su cs sz w' ks' ss' n' who' ties' su' cs' sz').map (fun c => some (z_ren πR c)) := by
  have h1 := z_emb (z_ren πR) ((zTBB w' ks' ss' n' who' ties' su' cs' sz').map (z_ren πR) ++ tl) (zTA w ks ss n who ties su cs sz) [zRoot img]
  have h2 := z_emb (z_ren πR) tl (zTBB w' ks' ss' n' who' ties' su' cs' sz') ([zRoot img] ++ (zTA w ks ss n who ties su cs sz).map (z_ren πR))
  rw [List.append_assoc] at h2
  rw [tt_split, List.map_append, List.map_append]
  exact congr (congrArg (· ++ ·) h1) h2
theorem re_back {wa ksa ssa : Int → Int} {na : Nat} {whoa tiesa : Int} {sua : Int → Int} {csa : Nat → zCD} {sza : Nat} : z_sct πR πR (wTT wa ksa ssa na whoa tiesa sua csa sza w' ks' ss' n' who' ties' su' cs' sz') (wRe img w ks ss n who ties su cs sz w' ks' ss' n' who' ties' su' cs' sz' tl) = wRe img wa ksa ssa na whoa tiesa sua csa sza w' ks' ss' n' who' ties' su' cs' sz' tl := by
  have h1 := z_embb πR ((zTBB w' ks' ss' n' who' ties' su' cs' sz').map (z_ren πR) ++ tl) (zTA wa ksa ssa na whoa tiesa sua csa sza) ((zTA w ks ss n who ties su cs sz).map (z_ren πR)) [zRoot img] rfl
  have h2 := z_embb πR tl (zTBB w' ks' ss' n' who' ties' su' cs' sz') ((zTBB w' ks' ss' n' who' ties' su' cs' sz').map (z_ren πR)) ([zRoot img] ++ (zTA wa ksa ssa na whoa tiesa sua csa sza).map (z_ren πR)) rfl
  simp only [List.append_assoc] at h2
  rw [tt_split]
  show z_sct πR (List.range' 1 45 ++ List.range' 46 45) _ _ = _
  rw [z_sct_app _ (List.range' 1 45) (List.range' 46 45) (zTA wa ksa ssa na whoa tiesa sua csa sza) _ _ rfl]
  have h3 : z_sct πR (List.range' 1 45) (zTA wa ksa ssa na whoa tiesa sua csa sza) (wRe img w ks ss n who ties su cs sz w' ks' ss' n' who' ties' su' cs' sz' tl) = wRe img wa ksa ssa na whoa tiesa sua csa sza w' ks' ss' n' who' ties' su' cs' sz' tl := h1
  rw [h3]
  exact h2
theorem c_Fp_image (hz : sz ≤ 12) :
    zMet m_Fp_image [.inr (.inr 0)] (wFp img w ks ss n who ties su cs sz (zKs w' ks' ss' n' who' ties' su' cs' sz' tl)) (fun v wd => v = some (.inl 1) ∧ wd = wFp 1 w ks ss n who ties su cs sz (zKs (z_cpy w w' 21) (z_cpy ks ks' 9) (z_cpy ss ss' 9) n who ties (zMx su su' sz) (zMxC cs' cs sz) sz tl)) := by
  refine zMet.of (own := RX6) rfl (by decide +kernel) tk_Fp_image fok_Fp cok_Fp (Nat.le_of_ble_eq_true rfl) (fun G hG => ?_)
  refine hG.1 [] 80 _ _ _ _ ?_
  refine hG.2.2.2.2.2.2 (z_weq_sym im_weq) ?_
  refine hG.2.1 (c_Ta_copyFrom (w := w') (ks := ks') (ss := ss') (n := n') (who := who') (ties := ties') (su := su') (cs := cs') (sz := sz') (w' := w) (ks' := ks) (ss' := ss) (n' := n) (who' := who) (ties' := ties) (su' := su) (cs' := cs) (sz' := sz) hz) yv_Ta_copyFrom lk_Fp_218 (by decide +kernel) rfl rfl πI (by decide +kernel) im_pick rfl rfl (Nat.le_of_ble_eq_true rfl) (fun v w2 hv hl2 => ?_)
  obtain ⟨rfl, rfl⟩ := hv
  rw [im_back]
  refine hG.2.2.2.2.2.2 im_weq ?_
  refine hG.1 [] 80 _ _ _ _ ?_
  exact ⟨Or.inr rfl, trivial, rfl, rfl⟩
theorem c_Fp_restore (hi : img = 0 ∨ img = 1) (hz : sz' ≤ 12) :
    zMet m_Fp_restore [.inr (.inr 0)] (wFp img w ks ss n who ties su cs sz (zKs w' ks' ss' n' who' ties' su' cs' sz' tl)) (fun v wd => (img = 0 ∧ v = some (.inl (-4)) ∧ wd = wFp img w ks ss n who ties su cs sz (zKs w' ks' ss' n' who' ties' su' cs' sz' tl)) ∨ (img = 1 ∧ v = some (.inl 1) ∧ wd = wFp img (z_cpy w' w 21) (z_cpy ks' ks 9) (z_cpy ss' ss 9) n' who' ties' (zMx su' su sz') (zMxC cs cs' sz') sz' (zKs w' ks' ss' n' who' ties' su' cs' sz' tl))) := by
  refine zMet.of (own := RX6) rfl (by decide +kernel) tk_Fp_restore fok_Fp cok_Fp (Nat.le_of_ble_eq_true rfl) (fun G hG => ?_)
  refine hG.1 [] 80 _ _ _ _ ?_
  refine ⟨by omega, fun h1 => ?_, fun h1 => ?_⟩
  · refine hG.2.2.2.2.2.2 (z_weq_sym re_weq) ?_
    refine hG.2.1 (c_Ta_copyFrom (w := w) (ks := ks) (ss := ss) (n := n) (who := who) (ties := ties) (su := su) (cs := cs) (sz := sz) (w' := w') (ks' := ks') (ss' := ss') (n' := n') (who' := who') (ties' := ties') (su' := su') (cs' := cs') (sz' := sz') hz) yv_Ta_copyFrom lk_Fp_218 (by decide +kernel) rfl rfl πR (by decide +kernel) re_pick rfl rfl (Nat.le_of_ble_eq_true rfl) (fun v w2 hv hl2 => ?_)
    obtain ⟨rfl, rfl⟩ := hv
    rw [re_back]
    refine hG.2.2.2.2.2.2 re_weq ?_
    refine hG.1 [] 80 _ _ _ _ ?_
    exact ⟨trivial, Or.inr ⟨by omega, rfl, rfl⟩⟩
  · exact ⟨trivial, Or.inl ⟨h1, rfl, rfl⟩⟩
end Tc
