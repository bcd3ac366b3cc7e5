/-! CELLS ALIKE: nights and tables at other places; Table.copyFrom; night, image, restore -/
def z_rfv (φ : Nat → Nat) : zV → zV
  | .inl x => .inl x
  | .inr (.inl x) => .inr (.inl x)
  | .inr (.inr k) => .inr (.inr (φ k))
def z_rf (φ : Nat → Nat) : zC → zC
  | .inl o => .inl (o.1, o.2.map (z_rfv φ))
  | .inr (t, (n, .inl f)) => .inr (t, (n, .inl f))
  | .inr (t, (n, .inr (.inl f))) => .inr (t, (n, .inr (.inl f)))
  | .inr (t, (n, .inr (.inr f))) => .inr (t, (n, .inr (.inr (fun j => φ (f j)))))
theorem z_rfv_eq (π : List Nat) (v : zV) : z_rv π v = z_rfv (z_pl π) v := by
  rcases v with x | x | x <;> rfl
theorem z_rf_eq (π : List Nat) (c : zC) : z_ren π c = z_rf (z_pl π) c := by
  rcases c with ⟨ci, fs⟩ | ⟨t, n, f | f | f⟩
  · show Sum.inl (ci, fs.map (z_rv π)) = Sum.inl (ci, fs.map (z_rfv (z_pl π)))
    rw [List.map_congr_left (fun v _ => z_rfv_eq π v)]
  · rfl
  · rfl
  · rfl
theorem z_rf_rf (φ ψ : Nat → Nat) (c : zC) : z_rf φ (z_rf ψ c) = z_rf (fun k => φ (ψ k)) c := by
  rcases c with ⟨ci, fs⟩ | ⟨t, n, f | f | f⟩
  · show Sum.inl (ci, (fs.map (z_rfv ψ)).map (z_rfv φ)) = Sum.inl (ci, fs.map (z_rfv fun k => φ (ψ k)))
    rw [List.map_map]
    congr 2
    exact List.map_congr_left fun v _ => by rcases v with x | x | x <;> rfl
  · rfl
  · rfl
  · rfl
theorem z_rf_map (φ ψ : Nat → Nat) (w : zW) : (w.map (z_rf ψ)).map (z_rf φ) = w.map (z_rf (fun k => φ (ψ k))) := by
  rw [List.map_map]
  exact List.map_congr_left fun c _ => z_rf_rf φ ψ c
theorem z_ren_map (π : List Nat) (w : zW) : w.map (z_ren π) = w.map (z_rf (z_pl π)) := List.map_congr_left fun c _ => z_rf_eq π c
theorem zCoC_weq {φ ψ : Nat → Nat} {o : Nat} {c : zCD} (h1 : φ (o + 1) = ψ (o + 1)) (h2 : φ (o + 2) = ψ (o + 2)) : z_weq ((zCoC o c).map (z_rf φ)) ((zCoC o c).map (z_rf ψ)) := by
  have e : (zCoC o c).map (z_rf φ) = (zCoC o c).map (z_rf ψ) := by
    simp only [zCoC, List.map, z_rf, z_rfv, h1, h2]
  rw [e]; exact z_weq_rf _
theorem wn_weq {φ ψ : Nat → Nat} {su : Int → Int} {cs : Nat → zCD} {sz : Nat} (h : ∀ k, k < 39 → φ k = ψ k) : z_weq ((wNi su cs sz).map (z_rf φ)) ((wNi su cs sz).map (z_rf ψ)) := by
  refine ⟨Or.inl ?_, Or.inl rfl, Or.inr ⟨0, 12, fun j => φ (3 + 3 * j.toNat), fun j => ψ (3 + 3 * j.toNat), rfl, rfl, fun j hj => h (3 + 3 * j) (by omega)⟩, ?_⟩
  · simp only [z_rf, z_rfv, List.map, h 1 (by omega), h 2 (by omega)]
  · unfold zCos
    simp only [List.map_append]
    exact z_weq_app (zCoC_weq (h 4 (by omega)) (h 5 (by omega))) (z_weq_app (zCoC_weq (h 7 (by omega)) (h 8 (by omega))) (z_weq_app (zCoC_weq (h 10 (by omega)) (h 11 (by omega))) (z_weq_app (zCoC_weq (h 13 (by omega)) (h 14 (by omega))) (z_weq_app (zCoC_weq (h 16 (by omega)) (h 17 (by omega))) (z_weq_app (zCoC_weq (h 19 (by omega)) (h 20 (by omega))) (z_weq_app (zCoC_weq (h 22 (by omega)) (h 23 (by omega))) (z_weq_app (zCoC_weq (h 25 (by omega)) (h 26 (by omega))) (z_weq_app (zCoC_weq (h 28 (by omega)) (h 29 (by omega))) (z_weq_app (zCoC_weq (h 31 (by omega)) (h 32 (by omega))) (z_weq_app (zCoC_weq (h 34 (by omega)) (h 35 (by omega))) (zCoC_weq (h 37 (by omega)) (h 38 (by omega)))))))))))))
theorem wt_eq {φ ψ : Nat → Nat} {w ks ss : Int → Int} {n : Nat} {who ties : Int} (h : ∀ k, k < 7 → φ k = ψ k) : (wTa w ks ss n who ties).map (z_rf φ) = (wTa w ks ss n who ties).map (z_rf ψ) := by
  simp only [wTa, List.map, z_rf, z_rfv, h 1 (by omega), h 2 (by omega), h 3 (by omega), h 4 (by omega), h 5 (by omega), h 6 (by omega)]
theorem zp_app {a n k : Nat} {X : List Nat} (h : k < n) : z_pl (List.range' a n ++ X) k = a + k := by
  refine z_pl_get ?_
  rw [List.getElem?_append_left (by rw [List.length_range']; exact h), List.getElem?_range' h]
  congr 1; omega
theorem zp_app2 {a n b m k : Nat} (h : k < m) : z_pl (List.range' a n ++ List.range' b m) (n + k) = b + k := by
  refine z_pl_get ?_
  rw [List.getElem?_append_right (by rw [List.length_range']; omega), List.length_range', show n + k - n = k by omega, List.getElem?_range' h]
  congr 1; omega
theorem zp_rg {a n k : Nat} (h : k < n) : z_pl (List.range' a n) k = a + k := by
  have := zp_app (a := a) (X := []) h
  rwa [List.append_nil] at this
theorem z_sct_app (π : List Nat) : ∀ (p1 p2 : List Nat) (c1 c2 ws : zW), p1.length = c1.length → z_sct π (p1 ++ p2) (c1 ++ c2) ws = z_sct π p2 c2 (z_sct π p1 c1 ws)
  | [], p2, [], c2, ws, _ => rfl
  | p :: p1, p2, c :: c1, c2, ws, h => by
    show z_sct π (p1 ++ p2) (c1 ++ c2) (z_s ws p (z_ren π c)) = z_sct π p2 c2 (z_sct π p1 c1 (z_s ws p (z_ren π c)))
    exact z_sct_app π p1 p2 c1 c2 _ (by simpa using h)
section Ng
variable {img : Int} {w ks ss : Int → Int} {n : Nat} {who ties : Int} {su : Int → Int} {cs : Nat → zCD} {sz : Nat} {tl : zW}
abbrev wFpA (img : Int) (w ks ss : Int → Int) (n : Nat) (who ties : Int) (su : Int → Int) (cs : Nat → zCD) (sz : Nat) (tl : zW) : zW := .inl (6, [.inr (.inr 1), .inr (.inr 46), .inl img, .inr (.inr 91), .inr (.inr 93), .inr (.inr 95), .inr (.inr 98)]) :: ((wTa w ks ss n who ties).map (z_ren [1, 2, 3, 4, 5, 6]) ++ ((wNi su cs sz).map (z_ren (List.range' 7 39 ++ [4, 5, 6])) ++ tl))
theorem fA_weq1 : z_weq (wFp img w ks ss n who ties su cs sz tl) (wFpA img w ks ss n who ties su cs sz tl) := by
  refine ⟨Or.inl rfl, z_weq_app (z_weq_rf _) (z_weq_app ?_ (z_weq_rf _))⟩
  rw [z_ren_map, z_ren_map]
  exact wn_weq (fun k hk => by rw [zp_rg hk, zp_app hk])
theorem fA_weq2 : z_weq (wFpA img w ks ss n who ties su cs sz tl) (wFp img w ks ss n who ties su cs sz tl) := by
  refine ⟨Or.inl rfl, z_weq_app (z_weq_rf _) (z_weq_app ?_ (z_weq_rf _))⟩
  rw [z_ren_map, z_ren_map]
  exact wn_weq (fun k hk => by rw [zp_rg hk, zp_app hk])
theorem fA_pick : (List.range' 7 39 ++ [4, 5, 6]).map (z_g (wFpA img w ks ss n who ties su cs sz tl)) = (wNiCo su cs sz (ks, (ss, (n, (who, ties))))).map (fun c => some (z_ren (List.range' 7 39 ++ [4, 5, 6]) c)) := by
  have h := z_emb (z_ren (List.range' 7 39 ++ [4, 5, 6])) tl (wNi su cs sz) (.inl (6, [.inr (.inr 1), .inr (.inr 46), .inl img, .inr (.inr 91), .inr (.inr 93), .inr (.inr 95), .inr (.inr 98)]) :: (wTa w ks ss n who ties).map (z_ren [1, 2, 3, 4, 5, 6]))
  have h2 : [4, 5, 6].map (z_g (wFpA img w ks ss n who ties su cs sz tl)) = (zCoC 39 (ks, (ss, (n, (who, ties))))).map (fun c => some (z_ren (List.range' 7 39 ++ [4, 5, 6]) c)) := rfl
  rw [List.map_append, h2]
  unfold wNiCo
  rw [List.map_append]
  exact congrArg (· ++ _) h
theorem fA_back {su' : Int → Int} {cs' : Nat → zCD} {sz' : Nat} : z_sct (List.range' 7 39 ++ [4, 5, 6]) (List.range' 7 39 ++ [4, 5, 6]) (wNiCo su' cs' sz' (ks, (ss, (n, (who, ties))))) (wFpA img w ks ss n who ties su cs sz tl) = wFpA img w ks ss n who ties su' cs' sz' tl := by
  have h := z_embb (List.range' 7 39 ++ [4, 5, 6]) tl (wNi su' cs' sz') ((wNi su cs sz).map (z_ren (List.range' 7 39 ++ [4, 5, 6]))) (.inl (6, [.inr (.inr 1), .inr (.inr 46), .inl img, .inr (.inr 91), .inr (.inr 93), .inr (.inr 95), .inr (.inr 98)]) :: (wTa w ks ss n who ties).map (z_ren [1, 2, 3, 4, 5, 6])) rfl
  unfold wNiCo
  rw [z_sct_app _ (List.range' 7 39) [4, 5, 6] (wNi su' cs' sz') _ _ rfl]
  have h3 : z_sct (List.range' 7 39 ++ [4, 5, 6]) (List.range' 7 39) (wNi su' cs' sz') (wFpA img w ks ss n who ties su cs sz tl) = wFpA img w ks ss n who ties su' cs' sz' tl := h
  rw [h3]
  rfl
theorem c_Fp_night {x : Int} (hx : -2147483648 ≤ x ∧ x ≤ 2147483647) (hn : n ≤ 9) (hz : sz ≤ 12) :
    zMet m_Fp_night [.inr (.inr 0), .inl x] (wFp img w ks ss n who ties su cs sz tl) (fun v wd =>
      (((0 ≤ x ∧ x < 21) ∧ sz < 12 ∧ n ≠ 0) ∧ v = some (.inl (sz : Int)) ∧ wd = wFp img w ks ss n who ties (z_u su sz x) (z_un cs sz (zCpC (cs sz) (ks, (ss, (n, (who, ties)))))) (sz + 1) tl) ∨
      (¬ ((0 ≤ x ∧ x < 21) ∧ sz < 12 ∧ n ≠ 0) ∧ v = some (.inl (if ¬ (0 ≤ x ∧ x < 21) then -1 else if ¬ sz < 12 then -3 else -2)) ∧ wd = wFp img w ks ss n who ties su cs sz tl)) := by
  refine zMet.of (own := RX6) rfl (by decide +kernel) tk_Fp_night fok_Fp cok_Fp (Nat.le_of_ble_eq_true rfl) (fun G hG => ?_)
  refine hG.1 [] 80 _ _ _ _ ?_
  refine hG.2.2.1 (c_Fp_isSum hx) ys_Fp_isSum (Or.inl lk_Fp_51) (by decide +kernel) rfl [] (by decide +kernel) rfl rfl rfl (Nat.le_of_ble_eq_true rfl) (fun v w2 hv hl2 => ?_)
  obtain ⟨⟨hc, rfl⟩ | ⟨hc, rfl⟩, rfl⟩ := hv
  · change G _ _ _ (wFp img w ks ss n who ties su cs sz tl)
    refine hG.1 [] 80 _ _ _ _ ?_
    refine ⟨by omega, fun h1 => ?_, fun h1 => absurd h1 (by omega)⟩
    refine hG.2.1 (c_Ni_size (su := su) (cs := cs) (sz := sz)) yv_Ni_size lk_Fp_148 (by decide +kernel) rfl rfl (List.range' 7 39) (by decide +kernel) fn_pick rfl rfl (Nat.le_of_ble_eq_true rfl) (fun v w2 hv hl2 => ?_)
    obtain ⟨rfl, rfl⟩ := hv
    rw [fn_back]
    refine hG.1 [] 80 _ _ _ _ ?_
    refine ⟨by omega, fun h2 => ?_, fun h2 => ?_⟩
    · refine hG.2.1 (c_Co_size ) yv_Co_size lk_Fp_69 (by decide +kernel) rfl rfl [4, 5, 6] (by decide +kernel) rfl rfl rfl (Nat.le_of_ble_eq_true rfl) (fun v w2 hv hl2 => ?_)
      obtain ⟨rfl, rfl⟩ := hv
      change G _ _ _ (wFp img w ks ss n who ties su cs sz tl)
      refine hG.1 [] 80 _ _ _ _ ?_
      refine ⟨by omega, fun h3 => ?_, fun h3 => ?_⟩
      · refine hG.2.2.2.2.2.2 fA_weq1 ?_
        refine hG.2.1 (c_Ni_append (su := su) (cs := cs) (sz := sz) (x := x) (c := (ks, (ss, (n, (who, ties))))) (by omega)) yv_Ni_append lk_Fp_206 (by decide +kernel) rfl rfl (List.range' 7 39 ++ [4, 5, 6]) (by decide +kernel) fA_pick rfl rfl (Nat.le_of_ble_eq_true rfl) (fun v w2 hv hl2 => ?_)
        obtain ⟨rfl, rfl⟩ := hv
        rw [fA_back]
        refine hG.2.2.2.2.2.2 fA_weq2 ?_
        refine hG.1 [] 80 _ _ _ _ ?_
        refine hG.2.1 (c_Ni_size (su := z_u su sz x) (cs := z_un cs sz (zCpC (cs sz) (ks, (ss, (n, (who, ties)))))) (sz := sz + 1)) yv_Ni_size lk_Fp_148 (by decide +kernel) rfl rfl (List.range' 7 39) (by decide +kernel) fn_pick rfl rfl (Nat.le_of_ble_eq_true rfl) (fun v w2 hv hl2 => ?_)
        obtain ⟨rfl, rfl⟩ := hv
        rw [fn_back]
        refine hG.1 [] 80 _ _ _ _ ?_
        exact ⟨trivial, Or.inl ⟨⟨hc, by omega, by omega⟩, by congr 2; omega, rfl⟩⟩
      · exact ⟨trivial, Or.inr ⟨by omega, by rw [if_neg (by omega), if_neg (by omega)], rfl⟩⟩
    · exact ⟨trivial, Or.inr ⟨by omega, by rw [if_neg (by omega), if_pos (by omega)], rfl⟩⟩
  · change G _ _ _ (wFp img w ks ss n who ties su cs sz tl)
    refine hG.1 [] 80 _ _ _ _ ?_
    refine ⟨by omega, fun h1 => absurd rfl h1, fun h1 => ?_⟩
    exact ⟨trivial, Or.inr ⟨fun z => hc z.1, by rw [if_pos hc], rfl⟩⟩
end Ng
