/-! THE REFERENCE: means, best slips, whether all are still -/
theorem zBet_ne {w ks ss : Int → Int} {n : Nat} {who ties : Int} {g : Nat} (h : zBet w ks ss n who ties g ≠ ss g) : zBet w ks ss n who ties g = (zLi w ss n who ties g : Int) := by
  unfold zBet at h ⊢
  by_cases a : ks g = 2
  · rw [if_pos a] at h; exact absurd rfl h
  · rw [if_neg a] at h ⊢
    by_cases b : zFs w ss n who ties g (zLi w ss n who ties g) < zBu w ss n who ties g
    · rw [if_pos b]
    · rw [if_neg b] at h; exact absurd rfl h
theorem zBet_still {w ks ss : Int → Int} {n : Nat} {who ties : Int} {g : Nat} : zBet w ks ss n who ties g = ss g ↔ (ks g = 2 ∨ zBu w ss n who ties g ≤ zFs w ss n who ties g (zLi w ss n who ties g)) := by
  unfold zBet
  by_cases a : ks g = 2
  · rw [if_pos a]; exact ⟨fun _ => Or.inl a, fun _ => rfl⟩
  · rw [if_neg a]
    by_cases b : zFs w ss n who ties g (zLi w ss n who ties g) < zBu w ss n who ties g
    · rw [if_pos b]
      refine ⟨fun z => ?_, fun z => by omega⟩
      have e : zFs w ss n who ties g (zLi w ss n who ties g) = zBu w ss n who ties g := by
        unfold zFs
        rw [z, z_u_self]
      omega
    · rw [if_neg b]; exact ⟨fun _ => Or.inr (by omega), fun _ => rfl⟩
section M12
variable {w ks ss : Int → Int} {n : Nat} {la su nm np ns : Int → Int} {sz : Nat} {tp : Int → Int} {tn pl : Nat} {rs : Int} {rd : Int → Int} {lp ik : Int} {kp : Int → Int} {km kn : Int} {ln rz it : Int → Int}
theorem c_Mo_meanParts {g : Nat} (hg : g < n) (hL : zOkL n (la 0) (la 1)) (hS : zOkS ss n) (hW : zOkW w) :
    zMet m_Mo_meanParts [.inr (.inr 0), .inl (g : Int)] (wMo w ks ss n la su nm np ns sz tp tn pl rs rd lp ik kp km kn ln rz it) (fun v wd => v = some (.inl (zBu w ss n (la 0) (la 1) g)) ∧ wd = wMo w ks ss n la su nm np ns sz tp tn pl rs rd lp ik kp km kn ln rz it) := by
  obtain ⟨hn, hlw, hla⟩ := hL
  refine zMet.of (own := RX7) rfl (by decide +kernel) tk_Mo_meanParts fok_Mo cok_Mo (Nat.le_of_ble_eq_true rfl) (fun G hG => ?_)
  refine hG.1 [4] 80 _ _ _ _ ?_
  have e1 : zBuN w ss n (la 0) (la 1) g 1 = 0 := by
    unfold zBuN; unfold zBuN
    simp
  suffices L : ∀ i, i ≤ 21 → (1 ≤ i → G 4 [(0, .inr (.inr 0)), (1, .inl (g : Int)), (2, .inl (zBuN w ss n (la 0) (la 1) g i)), (3, .inl (i : Int))] [] (wMo w ks ss n la su nm np ns sz tp tn pl rs rd lp ik kp km kn ln rz it)) by
    have := L 1 (by omega) (by omega)
    rw [e1] at this; exact this
  refine z_up (fun hb => ?_) (fun i hi ih hb => ?_)
  · refine hG.1 [] 80 _ _ _ _ ?_
    refine ⟨by omega, fun h1 => ?_, fun h1 => absurd h1 (by omega)⟩
    exact ⟨trivial, rfl, rfl⟩
  · have hwi := hW i hi
    have e : zBuN w ss n (la 0) (la 1) g (i + 1) = zBuN w ss n (la 0) (la 1) g i + (if 0 < w i then ((i : Int) * w i) * zSh ss n (la 0) (la 1) i g (zFree ss n (la 0)) else 0) := rfl
    have em : ((i : Int) * w i) * zSh ss n (la 0) (la 1) i g (zFree ss n (la 0)) = w i * zDue ss n (la 0) (la 1) g i := by
      rw [zDue, Int.mul_comm (i : Int) (w i), Int.mul_assoc]
    have ih := ih (by omega)
    rw [e, em] at ih
    refine hG.1 [4] 80 _ _ _ _ ?_
    refine ⟨by omega, fun h1 => absurd h1 (by omega), fun h1 => ?_⟩
    refine ⟨by omega, by omega, fun h2 => ?_, fun h2 => ?_⟩
    · refine ⟨by omega, ?_⟩
      refine hG.2.1 (c_Mo_partsFor (g := g) (k := i) hg (by omega) hn hS hlw hla) yv_Mo_partsFor lk_Mo_160 (by decide +kernel) rfl rfl [0, 1, 2, 3, 4, 5, 6, 7, 8, 9, 10, 11, 12, 13, 14] (by decide +kernel) rfl rfl rfl (Nat.le_of_ble_eq_true rfl) (fun v w2 hv hl2 => ?_)
      obtain ⟨rfl, rfl⟩ := hv
      change G _ _ _ (wMo w ks ss n la su nm np ns sz tp tn pl rs rd lp ik kp km kn ln rz it)
      rw [if_pos (by omega)] at ih
      refine hG.1 [4] 80 _ _ _ _ ?_
      exact ih
    · rw [if_neg (by omega)] at ih
      exact ih
theorem c_Mo_meanBy {g x : Nat} (hg : g < n) (hx : x ≤ 20) (hL : zOkL n (la 0) (la 1)) (hS : zOkS ss n) (hW : zOkW w) :
    zMet m_Mo_meanBy [.inr (.inr 0), .inl (g : Int), .inl (x : Int)] (wMo w ks ss n la su nm np ns sz tp tn pl rs rd lp ik kp km kn ln rz it) (fun v wd => v = some (.inl (zFs w ss n (la 0) (la 1) g x)) ∧ wd = wMo w ks ss n la su nm np ns sz tp tn pl rs rd lp ik kp km kn ln rz it) := by
  have hn := hL.1
  refine zMet.of (own := RX7) rfl (by decide +kernel) tk_Mo_meanBy fok_Mo cok_Mo (Nat.le_of_ble_eq_true rfl) (fun G hG => ?_)
  refine hG.1 [] 80 _ _ _ _ ?_
  refine ⟨by omega, by omega, ?_⟩
  refine hG.2.1 (c_Mo_meanParts (ss := z_u ss g x) (g := g) hg hL (zOkS_u hS (by omega)) hW) yv_Mo_meanParts lk_Mo_173 (by decide +kernel) rfl rfl [0, 1, 2, 3, 4, 5, 6, 7, 8, 9, 10, 11, 12, 13, 14] (by decide +kernel) rfl rfl rfl (Nat.le_of_ble_eq_true rfl) (fun v w2 hv hl2 => ?_)
  obtain ⟨rfl, rfl⟩ := hv
  change G _ _ _ (wMo w ks (z_u ss g x) n la su nm np ns sz tp tn pl rs rd lp ik kp km kn ln rz it)
  refine hG.1 [] 80 _ _ _ _ ?_
  refine ⟨by omega, trivial, rfl, ?_⟩
  show wMo w ks (z_u (z_u ss g x) g (ss g)) n la su nm np ns sz tp tn pl rs rd lp ik kp km kn ln rz it = wMo w ks ss n la su nm np ns sz tp tn pl rs rd lp ik kp km kn ln rz it
  rw [z_u_back]
theorem c_Mo_bestOf {g : Nat} (hg : g < n) (hL : zOkL n (la 0) (la 1)) (hS : zOkS ss n) (hW : zOkW w) :
    zMet m_Mo_bestOf [.inr (.inr 0), .inl (g : Int)] (wMo w ks ss n la su nm np ns sz tp tn pl rs rd lp ik kp km kn ln rz it) (fun v wd => v = some (.inl (zLi w ss n (la 0) (la 1) g : Int)) ∧ wd = wMo w ks ss n la su nm np ns sz tp tn pl rs rd lp ik kp km kn ln rz it) := by
  have hn := hL.1
  have hwb := zWei21 hW
  have hf : ∀ k, 0 ≤ zFs w ss n (la 0) (la 1) g k ∧ zFs w ss n (la 0) (la 1) g k ≤ 2520 * zWeiN w 21 + 1 := fun k => by
    have := zBu_in (w := w) (ss := z_u ss g k) (n := n) (who := la 0) (ties := la 1) (g := g) hW
    unfold zFs; omega
  have hf0 : zFs w ss n (la 0) (la 1) g 0 < 2520 * zWeiN w 21 + 1 := by
    have := zBu_in (w := w) (ss := z_u ss g ((0 : Nat) : Int)) (n := n) (who := la 0) (ties := la 1) (g := g) hW
    unfold zFs; omega
  have hmn := zMn_in (f := zFs w ss n (la 0) (la 1) g) (L0 := 2520 * zWeiN w 21 + 1) (M := 2520 * zWeiN w 21 + 1) (by omega) hf
  have m1 : zMn (zFs w ss n (la 0) (la 1) g) (2520 * zWeiN w 21 + 1) 1 = zFs w ss n (la 0) (la 1) g 0 := by
    unfold zMn; unfold zMn
    rw [if_pos hf0]
  have a1 : zAr (zFs w ss n (la 0) (la 1) g) (2520 * zWeiN w 21 + 1) 1 = 0 := by
    have := zAr_le (zFs w ss n (la 0) (la 1) g) (2520 * zWeiN w 21 + 1) 1
    omega
  refine zMet.of (own := RX7) rfl (by decide +kernel) tk_Mo_bestOf fok_Mo cok_Mo (Nat.le_of_ble_eq_true rfl) (fun G hG => ?_)
  refine hG.1 [] 80 _ _ _ _ ?_
  refine hG.2.1 (c_Mo_meanBy (g := g) (x := 0) hg (by omega) hL hS hW) yv_Mo_meanBy lk_Mo_176 (by decide +kernel) rfl rfl [0, 1, 2, 3, 4, 5, 6, 7, 8, 9, 10, 11, 12, 13, 14] (by decide +kernel) rfl rfl rfl (Nat.le_of_ble_eq_true rfl) (fun v w2 hv hl2 => ?_)
  obtain ⟨rfl, rfl⟩ := hv
  change G _ _ _ (wMo w ks ss n la su nm np ns sz tp tn pl rs rd lp ik kp km kn ln rz it)
  refine hG.1 [12] 80 _ _ _ _ ?_
  suffices L : ∀ i, i ≤ 21 → (1 ≤ i → G 12 [(0, .inr (.inr 0)), (1, .inl (g : Int)), (2, .inl (zAr (zFs w ss n (la 0) (la 1) g) (2520 * zWeiN w 21 + 1) i : Int)), (3, .inl (zMn (zFs w ss n (la 0) (la 1) g) (2520 * zWeiN w 21 + 1) i)), (4, .inl (i : Int))] [] (wMo w ks ss n la su nm np ns sz tp tn pl rs rd lp ik kp km kn ln rz it)) by
    have := L 1 (by omega) (by omega)
    rw [m1, a1] at this; exact this
  refine z_up (fun hb => ?_) (fun i hi ih hb => ?_)
  · refine hG.1 [] 80 _ _ _ _ ?_
    refine ⟨by omega, fun h1 => ?_, fun h1 => absurd h1 (by omega)⟩
    exact ⟨trivial, rfl, rfl⟩
  · have ih := ih (by omega)
    have ea : zAr (zFs w ss n (la 0) (la 1) g) (2520 * zWeiN w 21 + 1) (i + 1) = if zFs w ss n (la 0) (la 1) g i < zMn (zFs w ss n (la 0) (la 1) g) (2520 * zWeiN w 21 + 1) i then i else zAr (zFs w ss n (la 0) (la 1) g) (2520 * zWeiN w 21 + 1) i := rfl
    have em : zMn (zFs w ss n (la 0) (la 1) g) (2520 * zWeiN w 21 + 1) (i + 1) = if zFs w ss n (la 0) (la 1) g i < zMn (zFs w ss n (la 0) (la 1) g) (2520 * zWeiN w 21 + 1) i then zFs w ss n (la 0) (la 1) g i else zMn (zFs w ss n (la 0) (la 1) g) (2520 * zWeiN w 21 + 1) i := rfl
    have hfi := hf i
    have hmi := hmn i
    rw [ea, em] at ih
    refine hG.1 [12] 80 _ _ _ _ ?_
    refine ⟨by omega, fun h1 => absurd h1 (by omega), fun h1 => ?_⟩
    refine hG.2.1 (c_Mo_meanBy (g := g) (x := i) hg (by omega) hL hS hW) yv_Mo_meanBy lk_Mo_176 (by decide +kernel) rfl rfl [0, 1, 2, 3, 4, 5, 6, 7, 8, 9, 10, 11, 12, 13, 14] (by decide +kernel) rfl rfl rfl (Nat.le_of_ble_eq_true rfl) (fun v w2 hv hl2 => ?_)
    obtain ⟨rfl, rfl⟩ := hv
    change G _ _ _ (wMo w ks ss n la su nm np ns sz tp tn pl rs rd lp ik kp km kn ln rz it)
    refine hG.1 [12] 80 _ _ _ _ ?_
    refine ⟨by omega, fun h2 => ?_, fun h2 => ?_⟩
    · rw [if_neg (by omega), if_neg (by omega)] at ih
      refine ⟨by omega, fun h3 => ?_, fun h3 => absurd h3 (by omega)⟩
      exact hG.2.2.2.2.1 (fun q hq => List.mem_append_left _ hq) ih
    · rw [if_pos (by omega), if_pos (by omega)] at ih
      refine ⟨by omega, fun h3 => absurd h3 (by omega), fun h3 => ?_⟩
      exact hG.2.2.2.2.1 (fun q hq => List.mem_append_left _ hq) ih
theorem c_Mo_best {g : Int} (hg : -2147483648 ≤ g ∧ g ≤ 2147483647) (hL : zOkL n (la 0) (la 1)) (hS : zOkS ss n) (hW : zOkW w) :
    zMet m_Mo_best [.inr (.inr 0), .inl g] (wMo w ks ss n la su nm np ns sz tp tn pl rs rd lp ik kp km kn ln rz it) (fun v wd => v = some (.inl (if 0 ≤ g ∧ g < n then (if zSumN w 21 = 0 then -2 else (zLi w ss n (la 0) (la 1) g.toNat : Int)) else -1)) ∧ wd = wMo w ks ss n la su nm np ns sz tp tn pl rs rd lp ik kp km kn ln rz it) := by
  have hn := hL.1
  have hsum := zSumN_in hW
  refine zMet.of (own := RX7) rfl (by decide +kernel) tk_Mo_best fok_Mo cok_Mo (Nat.le_of_ble_eq_true rfl) (fun G hG => ?_)
  refine hG.1 [] 80 _ _ _ _ ?_
  refine hG.2.1 (c_Mo_isGuest (g := g) hg hn) yv_Mo_isGuest lk_Mo_75 (by decide +kernel) rfl rfl [0, 1, 2, 3, 4, 5, 6, 7, 8, 9, 10, 11, 12, 13, 14] (by decide +kernel) rfl rfl rfl (Nat.le_of_ble_eq_true rfl) (fun v w2 hv hl2 => ?_)
  obtain ⟨⟨hc, rfl⟩ | ⟨hc, rfl⟩, rfl⟩ := hv
  · change G _ _ _ (wMo w ks ss n la su nm np ns sz tp tn pl rs rd lp ik kp km kn ln rz it)
    refine hG.1 [] 80 _ _ _ _ ?_
    refine ⟨by omega, fun q => ?_, fun q => absurd q (by omega)⟩
    obtain ⟨k, rfl⟩ := z_nat hc.1
    refine hG.2.1 (c_Mo_allWeights ) yv_Mo_allWeights lk_Mo_79 (by decide +kernel) rfl rfl [0, 1, 2, 3, 4, 5, 6, 7, 8, 9, 10, 11, 12, 13, 14] (by decide +kernel) rfl rfl rfl (Nat.le_of_ble_eq_true rfl) (fun v w2 hv hl2 => ?_)
    obtain ⟨rfl, rfl⟩ := hv
    change G _ _ _ (wMo w ks ss n la su nm np ns sz tp tn pl rs rd lp ik kp km kn ln rz it)
    refine hG.1 [] 80 _ _ _ _ ?_
    refine ⟨by omega, fun h1 => ?_, fun h1 => ?_⟩
    · refine hG.2.1 (c_Mo_bestOf (g := k) (by omega) hL hS hW) yv_Mo_bestOf lk_Mo_179 (by decide +kernel) rfl rfl [0, 1, 2, 3, 4, 5, 6, 7, 8, 9, 10, 11, 12, 13, 14] (by decide +kernel) rfl rfl rfl (Nat.le_of_ble_eq_true rfl) (fun v w2 hv hl2 => ?_)
      obtain ⟨rfl, rfl⟩ := hv
      change G _ _ _ (wMo w ks ss n la su nm np ns sz tp tn pl rs rd lp ik kp km kn ln rz it)
      refine hG.1 [] 80 _ _ _ _ ?_
      exact ⟨trivial, by rw [if_pos hc, if_neg h1, Int.toNat_natCast] <;> rfl, rfl⟩
    · exact ⟨trivial, by rw [if_pos hc, if_pos h1] <;> rfl, rfl⟩
  · change G _ _ _ (wMo w ks ss n la su nm np ns sz tp tn pl rs rd lp ik kp km kn ln rz it)
    refine hG.1 [] 80 _ _ _ _ ?_
    refine ⟨by omega, fun q => absurd rfl q, fun q => ?_⟩
    exact ⟨trivial, by rw [if_neg hc] <;> rfl, rfl⟩
theorem c_Mo_isStill {g : Nat} (hg : g < n) (hL : zOkL n (la 0) (la 1)) (hS : zOkS ss n) (hW : zOkW w) (hK : zOkK ks n) :
    zMet m_Mo_isStill [.inr (.inr 0), .inl (g : Int)] (wMo w ks ss n la su nm np ns sz tp tn pl rs rd lp ik kp km kn ln rz it) (fun v wd => z_bool (zBet w ks ss n (la 0) (la 1) g = ss g) v ∧ wd = wMo w ks ss n la su nm np ns sz tp tn pl rs rd lp ik kp km kn ln rz it) := by
  have hn := hL.1
  have hwb := zWei21 hW
  have hbu := zBu_in (w := w) (ss := ss) (n := n) (who := la 0) (ties := la 1) (g := g) hW
  have hfs : 0 ≤ zFs w ss n (la 0) (la 1) g (zLi w ss n (la 0) (la 1) g) ∧ zFs w ss n (la 0) (la 1) g (zLi w ss n (la 0) (la 1) g) ≤ 2520 * zWeiN w 21 := zBu_in (w := w) (ss := z_u ss g (zLi w ss n (la 0) (la 1) g : Int)) (n := n) (who := la 0) (ties := la 1) (g := g) hW
  have hli : zLi w ss n (la 0) (la 1) g ≤ 20 := zAr_le _ _ 21
  have hkg := hK g hg
  have hst := zBet_still (w := w) (ks := ks) (ss := ss) (n := n) (who := la 0) (ties := la 1) (g := g)
  refine zMet.of (own := RX7) rfl (by decide +kernel) tk_Mo_isStill fok_Mo cok_Mo (Nat.le_of_ble_eq_true rfl) (fun G hG => ?_)
  refine hG.1 [] 80 _ _ _ _ ?_
  refine ⟨by omega, by omega, fun h1 => ?_, fun h1 => ?_⟩
  · exact ⟨Or.inr rfl, Or.inl ⟨hst.mpr (Or.inl h1), rfl⟩, rfl⟩
  · refine hG.2.1 (c_Mo_bestOf (g := g) hg hL hS hW) yv_Mo_bestOf lk_Mo_179 (by decide +kernel) rfl rfl [0, 1, 2, 3, 4, 5, 6, 7, 8, 9, 10, 11, 12, 13, 14] (by decide +kernel) rfl rfl rfl (Nat.le_of_ble_eq_true rfl) (fun v w2 hv hl2 => ?_)
    obtain ⟨rfl, rfl⟩ := hv
    change G _ _ _ (wMo w ks ss n la su nm np ns sz tp tn pl rs rd lp ik kp km kn ln rz it)
    refine hG.1 [] 80 _ _ _ _ ?_
    refine hG.2.1 (c_Mo_meanBy (g := g) (x := zLi w ss n (la 0) (la 1) g) hg hli hL hS hW) yv_Mo_meanBy lk_Mo_176 (by decide +kernel) rfl rfl [0, 1, 2, 3, 4, 5, 6, 7, 8, 9, 10, 11, 12, 13, 14] (by decide +kernel) rfl rfl rfl (Nat.le_of_ble_eq_true rfl) (fun v w2 hv hl2 => ?_)
    obtain ⟨rfl, rfl⟩ := hv
    change G _ _ _ (wMo w ks ss n la su nm np ns sz tp tn pl rs rd lp ik kp km kn ln rz it)
    refine hG.1 [] 80 _ _ _ _ ?_
    refine hG.2.1 (c_Mo_meanParts (g := g) hg hL hS hW) yv_Mo_meanParts lk_Mo_173 (by decide +kernel) rfl rfl [0, 1, 2, 3, 4, 5, 6, 7, 8, 9, 10, 11, 12, 13, 14] (by decide +kernel) rfl rfl rfl (Nat.le_of_ble_eq_true rfl) (fun v w2 hv hl2 => ?_)
    obtain ⟨rfl, rfl⟩ := hv
    change G _ _ _ (wMo w ks ss n la su nm np ns sz tp tn pl rs rd lp ik kp km kn ln rz it)
    refine hG.1 [] 80 _ _ _ _ ?_
    refine ⟨by omega, fun h2 => ?_, fun h2 => ?_⟩
    · exact ⟨Or.inl rfl, Or.inr ⟨fun z => by have := hst.mp z; omega, rfl⟩, rfl⟩
    · exact ⟨Or.inr rfl, Or.inl ⟨hst.mpr (Or.inr h2), rfl⟩, rfl⟩
theorem c_Mo_still (hL : zOkL n (la 0) (la 1)) (hS : zOkS ss n) (hW : zOkW w) (hK : zOkK ks n) :
    zMet m_Mo_still [.inr (.inr 0)] (wMo w ks ss n la su nm np ns sz tp tn pl rs rd lp ik kp km kn ln rz it) (fun v wd => ((zSumN w 21 = 0 ∧ v = some (.inl (-2))) ∨ (zSumN w 21 ≠ 0 ∧ z_bool (∀ g : Nat, g < n → zBet w ks ss n (la 0) (la 1) g = ss g) v)) ∧ wd = wMo w ks ss n la su nm np ns sz tp tn pl rs rd lp ik kp km kn ln rz it) := by
  have hn := hL.1
  have hsum := zSumN_in hW
  refine zMet.of (own := RX7) rfl (by decide +kernel) tk_Mo_still fok_Mo cok_Mo (Nat.le_of_ble_eq_true rfl) (fun G hG => ?_)
  refine hG.1 [] 80 _ _ _ _ ?_
  refine hG.2.1 (c_Mo_allWeights ) yv_Mo_allWeights lk_Mo_79 (by decide +kernel) rfl rfl [0, 1, 2, 3, 4, 5, 6, 7, 8, 9, 10, 11, 12, 13, 14] (by decide +kernel) rfl rfl rfl (Nat.le_of_ble_eq_true rfl) (fun v w2 hv hl2 => ?_)
  obtain ⟨rfl, rfl⟩ := hv
  change G _ _ _ (wMo w ks ss n la su nm np ns sz tp tn pl rs rd lp ik kp km kn ln rz it)
  refine hG.1 [14] 80 _ _ _ _ ?_
  refine ⟨by omega, fun h1 => ?_, fun h1 => ?_⟩
  · have bad : ∀ i : Nat, i ≤ n → ¬ (∀ g : Nat, g < n → zBet w ks ss n (la 0) (la 1) g = ss g) → G 14 [(0, .inr (.inr 0)), (1, .inl 0), (2, .inl (i : Int))] [] (wMo w ks ss n la su nm np ns sz tp tn pl rs rd lp ik kp km kn ln rz it) := by
      intro i hi hb
      refine hG.1 [] 80 _ _ _ _ ?_
      refine ⟨by omega, fun h2 => ?_, fun h2 => ?_⟩
      · refine ⟨by omega, fun h3 => ?_, fun h3 => absurd rfl h3⟩
        exact ⟨trivial, Or.inr ⟨h1, Or.inr ⟨hb, rfl⟩⟩, rfl⟩
      · refine ⟨by omega, fun h3 => ?_, fun h3 => absurd rfl h3⟩
        refine ⟨by omega, fun h3 => ?_, fun h3 => absurd rfl h3⟩
        exact ⟨trivial, Or.inr ⟨h1, Or.inr ⟨hb, rfl⟩⟩, rfl⟩
    suffices L : ∀ i, i ≤ n → ((∀ g : Nat, g < i → zBet w ks ss n (la 0) (la 1) g = ss g) → G 14 [(0, .inr (.inr 0)), (1, .inl 1), (2, .inl (i : Int))] [] (wMo w ks ss n la su nm np ns sz tp tn pl rs rd lp ik kp km kn ln rz it)) from L 0 (by omega) (fun g h => by omega)
    refine z_up (fun hb => ?_) (fun i hi ih hb => ?_)
    · refine hG.1 [] 80 _ _ _ _ ?_
      refine ⟨by omega, fun h2 => ?_, fun h2 => absurd h2 (by omega)⟩
      refine ⟨by omega, fun h3 => absurd h3 (by omega), fun h3 => ?_⟩
      exact ⟨trivial, Or.inr ⟨h1, Or.inl ⟨hb, rfl⟩⟩, rfl⟩
    · refine hG.1 [14] 80 _ _ _ _ ?_
      refine ⟨by omega, fun h2 => absurd h2 (by omega), fun h2 => ?_⟩
      refine ⟨by omega, fun h3 => absurd h3 (by omega), fun h3 => ?_⟩
      refine hG.2.1 (c_Mo_isStill (g := i) hi hL hS hW hK) yv_Mo_isStill lk_Mo_182 (by decide +kernel) rfl rfl [0, 1, 2, 3, 4, 5, 6, 7, 8, 9, 10, 11, 12, 13, 14] (by decide +kernel) rfl rfl rfl (Nat.le_of_ble_eq_true rfl) (fun v w2 hv hl2 => ?_)
      obtain ⟨⟨hc, rfl⟩ | ⟨hc, rfl⟩, rfl⟩ := hv
      · change G _ _ _ (wMo w ks ss n la su nm np ns sz tp tn pl rs rd lp ik kp km kn ln rz it)
        refine hG.1 [14] 80 _ _ _ _ ?_
        exact ih (fun g hg => by
          rcases Nat.lt_succ_iff_lt_or_eq.mp hg with h | rfl
          · exact hb g h
          · exact hc)
      · change G _ _ _ (wMo w ks ss n la su nm np ns sz tp tn pl rs rd lp ik kp km kn ln rz it)
        refine hG.1 [14] 80 _ _ _ _ ?_
        exact bad (i + 1) (by omega) (fun z => hc (z i hi))
  · exact ⟨trivial, Or.inl ⟨h1, rfl⟩, rfl⟩
end M12
