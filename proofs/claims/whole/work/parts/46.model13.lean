/-! THE REFERENCE: turns, pays, mean -/
section M13
variable {w ks ss : Int → Int} {n : Nat} {la su nm np ns : Int → Int} {sz : Nat} {tp : Int → Int} {tn pl : Nat} {rs : Int} {rd : Int → Int} {lp ik : Int} {kp : Int → Int} {km kn : Int} {ln rz it : Int → Int}
theorem c_Mo_turns {t : Int} (ht : -2147483648 ≤ t ∧ t ≤ 2147483647) (hL : zOkL n (la 0) (la 1)) (hS : zOkS ss n) (hW : zOkW w) (hK : zOkK ks n) :
    zMet m_Mo_turns [.inr (.inr 0), .inl t] (wMo w ks ss n la su nm np ns sz tp tn pl rs rd lp ik kp km kn ln rz it) (fun v wd => ((1 ≤ t ∧ t ≤ 40) ∧ zSumN w 21 ≠ 0 ∧ v = some (.inl ((zTk w ks n (la 0) (la 1) t.toNat 0 0 0 ss).1 : Int)) ∧ wd = wMo w ks (zTk w ks n (la 0) (la 1) t.toNat 0 0 0 ss).2 n la su nm np ns sz tp tn pl rs rd lp ik kp km kn ln rz it) ∨ ((1 ≤ t ∧ t ≤ 40) ∧ zSumN w 21 = 0 ∧ v = some (.inl (-2)) ∧ wd = wMo w ks ss n la su nm np ns sz tp tn pl rs rd lp ik kp km kn ln rz it) ∨ (¬ (1 ≤ t ∧ t ≤ 40) ∧ v = some (.inl (-1)) ∧ wd = wMo w ks ss n la su nm np ns sz tp tn pl rs rd lp ik kp km kn ln rz it)) := by
  have hn := hL.1
  have hsum := zSumN_in hW
  refine zMet.of (own := RX7) rfl (by decide +kernel) tk_Mo_turns fok_Mo cok_Mo (Nat.le_of_ble_eq_true rfl) (fun G hG => ?_)
  refine hG.1 [] 80 _ _ _ _ ?_
  refine ⟨by omega, ?_⟩
  refine hG.2.2.1 (c_Mo_in (a := t) (b := 1) (c := 40) (by omega) (by omega) (by omega)) ys_Mo_in (Or.inl lk_Mo_55) (by decide +kernel) rfl [] (by decide +kernel) rfl rfl rfl (Nat.le_of_ble_eq_true rfl) (fun v w2 hv hl2 => ?_)
  obtain ⟨⟨hc, rfl⟩ | ⟨hc, rfl⟩, rfl⟩ := hv
  · change G _ _ _ (wMo w ks ss n la su nm np ns sz tp tn pl rs rd lp ik kp km kn ln rz it)
    refine hG.1 [] 80 _ _ _ _ ?_
    refine ⟨by omega, fun q => ?_, fun q => absurd q (by omega)⟩
    refine hG.2.1 (c_Mo_allWeights ) yv_Mo_allWeights lk_Mo_79 (by decide +kernel) rfl rfl [0, 1, 2, 3, 4, 5, 6, 7, 8, 9, 10, 11, 12, 13, 14] (by decide +kernel) rfl rfl rfl (Nat.le_of_ble_eq_true rfl) (fun v w2 hv hl2 => ?_)
    obtain ⟨rfl, rfl⟩ := hv
    change G _ _ _ (wMo w ks ss n la su nm np ns sz tp tn pl rs rd lp ik kp km kn ln rz it)
    obtain ⟨t, rfl⟩ := z_nat (show 0 ≤ t by omega)
    refine hG.1 [31] 80 _ _ _ _ ?_
    refine ⟨by omega, fun h0 => ?_, fun h0 => ?_⟩
    · have key : ∀ d i : Nat, i + d = t → ∀ (g kept ch : Nat) (s : Int → Int) (l : zL), l = [] ∨ (∃ x, l = [(5, .inl x)]) → (0 < n → g = i % n) → kept ≤ n → ch ≤ i → zOkS s n → zTk w ks n (la 0) (la 1) d g kept ch s = zTk w ks n (la 0) (la 1) (t : Int).toNat 0 0 0 ss → G 31 ([(0, .inr (.inr 0)), (1, .inl (t : Int)), (2, .inl (ch : Int)), (3, .inl (kept : Int)), (4, .inl (i : Int))] ++ l) [] (wMo w ks (s) n la su nm np ns sz tp tn pl rs rd lp ik kp km kn ln rz it) := by
        intro d
        induction d with
        | zero =>
          intro i hi g kept ch s l hl hg hk hch hs he
          refine hG.2.2.2.2.1 (fun q hq => List.mem_append_left _ hq) ?_
          refine hG.1 [] 80 _ _ _ _ ?_
          refine ⟨by omega, fun h1 => ?_, fun h1 => absurd h1 (by omega)⟩
          exact ⟨trivial, Or.inl ⟨hc, h0, by rw [← he] <;> rfl, by rw [← he] <;> rfl⟩⟩
        | succ d ih =>
          intro i hi g kept ch s l hl hg hk hch hs he
          refine hG.2.2.2.2.1 (fun q hq => List.mem_append_left _ hq) ?_
          have he2 : (if ¬ kept < n then (ch, s) else if zBet w ks s n (la 0) (la 1) g = s g then zTk w ks n (la 0) (la 1) d (if g + 1 < n then g + 1 else 0) (kept + 1) ch s else zTk w ks n (la 0) (la 1) d (if g + 1 < n then g + 1 else 0) 0 (ch + 1) (z_u s g (zBet w ks s n (la 0) (la 1) g))) = zTk w ks n (la 0) (la 1) (t : Int).toNat 0 0 0 ss := he
          refine hG.1 [31] 80 _ _ _ _ ?_
          refine ⟨by omega, fun h1 => absurd h1 (by omega), fun h1 => ?_⟩
          refine ⟨by omega, fun h2 => ?_, fun h2 => ?_⟩
          · rw [if_pos (by omega)] at he2
            exact ⟨trivial, Or.inl ⟨hc, h0, by rw [← he2], by rw [← he2]⟩⟩
          · rw [if_neg (by omega)] at he2
            have hgi : g = i % n := hg (by omega)
            have hgn : g < n := by rw [hgi]; exact Nat.mod_lt _ (by omega)
            have hnx : (if g + 1 < n then g + 1 else 0) = (i + 1) % n := by
              have e1 : (i + 1) % n = (g + 1) % n := by rw [hgi, Nat.mod_add_mod]
              rw [e1]
              by_cases c : g + 1 < n
              · rw [if_pos c, Nat.mod_eq_of_lt c]
              · rw [if_neg c, show g + 1 = n by omega, Nat.mod_self]
            have hge : ((i : Int) % (n : Int)) = (g : Int) := by rw [hgi, Int.natCast_emod]
            rw [hnx] at he2
            refine ⟨by omega, ?_⟩
            change G 57 [(0, .inr (.inr 0)), (1, .inl (t : Int)), (2, .inl (ch : Int)), (3, .inl (kept : Int)), (4, .inl (i : Int)), (5, .inl ((i : Int) % (n : Int)))] [.inl ((i : Int) % (n : Int)), .inr (.inr 0)] (wMo w ks (s) n la su nm np ns sz tp tn pl rs rd lp ik kp km kn ln rz it)
            rw [hge]
            refine hG.2.1 (c_Mo_isStill (ss := s) (g := g) hgn hL hs hW hK) yv_Mo_isStill lk_Mo_182 (by decide +kernel) rfl rfl [0, 1, 2, 3, 4, 5, 6, 7, 8, 9, 10, 11, 12, 13, 14] (by decide +kernel) rfl rfl rfl (Nat.le_of_ble_eq_true rfl) (fun v w2 hv hl2 => ?_)
            obtain ⟨⟨hb, rfl⟩ | ⟨hb, rfl⟩, rfl⟩ := hv
            · change G _ _ _ (wMo w ks (s) n la su nm np ns sz tp tn pl rs rd lp ik kp km kn ln rz it)
              rw [if_pos hb] at he2
              refine hG.1 [31] 80 _ _ _ _ ?_
              refine ⟨by omega, fun h3 => absurd h3 (by omega), fun h3 => ?_⟩
              exact ih (i + 1) (by omega) ((i + 1) % n) (kept + 1) ch s _ (Or.inr ⟨_, rfl⟩) (fun _ => rfl) (by omega) (by omega) hs he2
            · change G _ _ _ (wMo w ks (s) n la su nm np ns sz tp tn pl rs rd lp ik kp km kn ln rz it)
              rw [if_neg hb, zBet_ne hb] at he2
              have hli : zLi w s n (la 0) (la 1) g ≤ 20 := zAr_le _ _ 21
              refine hG.1 [31] 80 _ _ _ _ ?_
              refine ⟨by omega, fun h3 => ?_, fun h3 => absurd rfl h3⟩
              refine hG.2.1 (c_Mo_bestOf (ss := s) (g := g) hgn hL hs hW) yv_Mo_bestOf lk_Mo_179 (by decide +kernel) rfl rfl [0, 1, 2, 3, 4, 5, 6, 7, 8, 9, 10, 11, 12, 13, 14] (by decide +kernel) rfl rfl rfl (Nat.le_of_ble_eq_true rfl) (fun v w2 hv hl2 => ?_)
              obtain ⟨rfl, rfl⟩ := hv
              change G _ _ _ (wMo w ks (s) n la su nm np ns sz tp tn pl rs rd lp ik kp km kn ln rz it)
              refine hG.1 [31] 80 _ _ _ _ ?_
              refine ⟨by omega, ?_⟩
              exact ih (i + 1) (by omega) ((i + 1) % n) 0 (ch + 1) (z_u s g (zLi w s n (la 0) (la 1) g)) _ (Or.inr ⟨_, rfl⟩) (fun _ => rfl) (by omega) (by omega) (zOkS_u hs (by omega)) he2
      exact key t 0 (by omega) 0 0 0 ss [] (Or.inl rfl) (fun _ => (Nat.zero_mod n).symm) (by omega) (by omega) hS (by rw [Int.toNat_natCast])
    · exact ⟨trivial, Or.inr (Or.inl ⟨hc, h0, rfl, rfl⟩)⟩
  · change G _ _ _ (wMo w ks ss n la su nm np ns sz tp tn pl rs rd lp ik kp km kn ln rz it)
    refine hG.1 [] 80 _ _ _ _ ?_
    refine ⟨by omega, fun q => absurd rfl q, fun q => ?_⟩
    exact ⟨trivial, Or.inr (Or.inr ⟨hc, rfl, rfl⟩)⟩
theorem c_Mo_pays {g x part : Int} (hg : -2147483648 ≤ g ∧ g ≤ 2147483647) (hx : -2147483648 ≤ x ∧ x ≤ 2147483647) (hp : -2147483648 ≤ part ∧ part ≤ 2147483647) (hL : zOkL n (la 0) (la 1)) (hS : zOkS ss n) :
    zMet m_Mo_pays [.inr (.inr 0), .inl g, .inl x, .inl part] (wMo w ks ss n la su nm np ns sz tp tn pl rs rd lp ik kp km kn ln rz it) (fun v wd => v = some (.inl (if (0 ≤ g ∧ g < n) ∧ (0 ≤ x ∧ x < 21) ∧ (part = 0 ∨ part = 1) then zLow (zDue ss n (la 0) (la 1) g.toNat x.toNat).toNat 2520 part else -1)) ∧ wd = wMo w ks ss n la su nm np ns sz tp tn pl rs rd lp ik kp km kn ln rz it) := by
  obtain ⟨hn, hwho, hties⟩ := hL
  refine zMet.of (own := RX7) rfl (by decide +kernel) tk_Mo_pays fok_Mo cok_Mo (Nat.le_of_ble_eq_true rfl) (fun G hG => ?_)
  refine hG.1 [] 80 _ _ _ _ ?_
  refine hG.2.1 (c_Mo_isGuest (g := g) hg hn) yv_Mo_isGuest lk_Mo_75 (by decide +kernel) rfl rfl [0, 1, 2, 3, 4, 5, 6, 7, 8, 9, 10, 11, 12, 13, 14] (by decide +kernel) rfl rfl rfl (Nat.le_of_ble_eq_true rfl) (fun v w2 hv hl2 => ?_)
  obtain ⟨⟨hc, rfl⟩ | ⟨hc, rfl⟩, rfl⟩ := hv
  · change G _ _ _ (wMo w ks ss n la su nm np ns sz tp tn pl rs rd lp ik kp km kn ln rz it)
    refine hG.1 [] 80 _ _ _ _ ?_
    refine ⟨by omega, fun h1 => absurd h1 (by omega), fun h1 => ?_⟩
    refine ⟨by omega, ?_⟩
    refine hG.2.2.1 (c_Mo_isSum (x := x) (by omega)) ys_Mo_isSum (Or.inl lk_Mo_63) (by decide +kernel) rfl [] (by decide +kernel) rfl rfl rfl (Nat.le_of_ble_eq_true rfl) (fun v w2 hv hl2 => ?_)
    obtain ⟨⟨hc2, rfl⟩ | ⟨hc2, rfl⟩, rfl⟩ := hv
    · change G _ _ _ (wMo w ks ss n la su nm np ns sz tp tn pl rs rd lp ik kp km kn ln rz it)
      refine hG.1 [] 80 _ _ _ _ ?_
      refine ⟨by omega, fun h2 => absurd h2 (by omega), fun h2 => ?_⟩
      refine ⟨by omega, ?_⟩
      refine hG.2.2.1 (c_Mo_in (a := part) (b := 0) (c := 1) (by omega) (by omega) (by omega)) ys_Mo_in (Or.inl lk_Mo_55) (by decide +kernel) rfl [] (by decide +kernel) rfl rfl rfl (Nat.le_of_ble_eq_true rfl) (fun v w2 hv hl2 => ?_)
      obtain ⟨⟨hc3, rfl⟩ | ⟨hc3, rfl⟩, rfl⟩ := hv
      · change G _ _ _ (wMo w ks ss n la su nm np ns sz tp tn pl rs rd lp ik kp km kn ln rz it)
        refine hG.1 [] 80 _ _ _ _ ?_
        refine ⟨by omega, fun h3 => ?_, fun h3 => absurd h3 (by omega)⟩
        obtain ⟨k, rfl⟩ := z_nat hc.1
        obtain ⟨j, rfl⟩ := z_nat hc2.1
        have hkn : k < n := by omega
        refine hG.2.1 (c_Mo_partsFor (g := k) (k := j) hkn (by omega) hn hS hwho hties) yv_Mo_partsFor lk_Mo_160 (by decide +kernel) rfl rfl [0, 1, 2, 3, 4, 5, 6, 7, 8, 9, 10, 11, 12, 13, 14] (by decide +kernel) rfl rfl rfl (Nat.le_of_ble_eq_true rfl) (fun v w2 hv hl2 => ?_)
        obtain ⟨rfl, rfl⟩ := hv
        change G _ _ _ (wMo w ks ss n la su nm np ns sz tp tn pl rs rd lp ik kp km kn ln rz it)
        have hsh := zSh_in ss n (la 0) (la 1) j k (zFree ss n (la 0))
        have hd0 : 0 ≤ zDue ss n (la 0) (la 1) k j := Int.mul_nonneg (by omega) hsh.1
        have hd1 : zDue ss n (la 0) (la 1) k j ≤ 20 * 2520 := Int.mul_le_mul (by omega) hsh.2 hsh.1 (by omega)
        obtain ⟨t, ht⟩ := z_nat hd0
        rw [ht]
        refine hG.1 [] 80 _ _ _ _ ?_
        refine ⟨by omega, ?_⟩
        refine hG.2.2.1 (c_Mo_part (t := t) (b := 2520) (part := part) (by omega) (by omega) (by omega)) ys_Mo_part (Or.inl lk_Mo_165) (by decide +kernel) rfl [] (by decide +kernel) rfl rfl rfl (Nat.le_of_ble_eq_true rfl) (fun v w2 hv hl2 => ?_)
        obtain ⟨rfl, rfl⟩ := hv
        change G _ _ _ (wMo w ks ss n la su nm np ns sz tp tn pl rs rd lp ik kp km kn ln rz it)
        refine hG.1 [] 80 _ _ _ _ ?_
        refine Or.inl ?_
        exact ⟨trivial, by rw [if_pos ⟨hc, hc2, show part = 0 ∨ part = 1 by omega⟩, Int.toNat_natCast, Int.toNat_natCast, ht, Int.toNat_natCast] <;> rfl, rfl⟩
      · change G _ _ _ (wMo w ks ss n la su nm np ns sz tp tn pl rs rd lp ik kp km kn ln rz it)
        refine hG.1 [] 80 _ _ _ _ ?_
        refine ⟨by omega, fun h3 => absurd rfl h3, fun h3 => ?_⟩
        exact ⟨trivial, by rw [if_neg (fun z => hc3 (by have := z.2.2; omega))], rfl⟩
    · change G _ _ _ (wMo w ks ss n la su nm np ns sz tp tn pl rs rd lp ik kp km kn ln rz it)
      refine hG.1 [] 80 _ _ _ _ ?_
      refine ⟨by omega, fun h2 => ?_, fun h2 => absurd rfl h2⟩
      exact ⟨trivial, by rw [if_neg (fun z => hc2 z.2.1)], rfl⟩
  · change G _ _ _ (wMo w ks ss n la su nm np ns sz tp tn pl rs rd lp ik kp km kn ln rz it)
    refine hG.1 [] 80 _ _ _ _ ?_
    refine ⟨by omega, fun h1 => ?_, fun h1 => absurd rfl h1⟩
    exact ⟨trivial, by rw [if_neg (fun z => hc z.1)], rfl⟩
theorem c_Mo_mean {g part : Int} (hg : -2147483648 ≤ g ∧ g ≤ 2147483647) (hp : -2147483648 ≤ part ∧ part ≤ 2147483647) (hL : zOkL n (la 0) (la 1)) (hS : zOkS ss n) (hW : zOkW w) :
    zMet m_Mo_mean [.inr (.inr 0), .inl g, .inl part] (wMo w ks ss n la su nm np ns sz tp tn pl rs rd lp ik kp km kn ln rz it) (fun v wd => v = some (.inr (.inl (if (0 ≤ g ∧ g < n) ∧ (part = 0 ∨ part = 1) then (if zSumN w 21 = 0 then -2 else zLow (zBu w ss n (la 0) (la 1) g.toNat).toNat (2520 * (zSumN w 21).toNat) part) else -1))) ∧ wd = wMo w ks ss n la su nm np ns sz tp tn pl rs rd lp ik kp km kn ln rz it) := by
  have hn := hL.1
  have hsum := zSumN_in hW
  have hwei := zWei21 hW
  refine zMet.of (own := RX7) rfl (by decide +kernel) tk_Mo_mean fok_Mo cok_Mo (Nat.le_of_ble_eq_true rfl) (fun G hG => ?_)
  refine hG.1 [] 80 _ _ _ _ ?_
  refine hG.2.1 (c_Mo_isGuest (g := g) hg hn) yv_Mo_isGuest lk_Mo_75 (by decide +kernel) rfl rfl [0, 1, 2, 3, 4, 5, 6, 7, 8, 9, 10, 11, 12, 13, 14] (by decide +kernel) rfl rfl rfl (Nat.le_of_ble_eq_true rfl) (fun v w2 hv hl2 => ?_)
  obtain ⟨⟨hc, rfl⟩ | ⟨hc, rfl⟩, rfl⟩ := hv
  · change G _ _ _ (wMo w ks ss n la su nm np ns sz tp tn pl rs rd lp ik kp km kn ln rz it)
    refine hG.1 [] 80 _ _ _ _ ?_
    refine ⟨by omega, fun h1 => absurd h1 (by omega), fun h1 => ?_⟩
    refine ⟨by omega, ?_⟩
    refine hG.2.2.1 (c_Mo_in (a := part) (b := 0) (c := 1) (by omega) (by omega) (by omega)) ys_Mo_in (Or.inl lk_Mo_55) (by decide +kernel) rfl [] (by decide +kernel) rfl rfl rfl (Nat.le_of_ble_eq_true rfl) (fun v w2 hv hl2 => ?_)
    obtain ⟨⟨hc3, rfl⟩ | ⟨hc3, rfl⟩, rfl⟩ := hv
    · change G _ _ _ (wMo w ks ss n la su nm np ns sz tp tn pl rs rd lp ik kp km kn ln rz it)
      have hc4 : part = 0 ∨ part = 1 := by omega
      refine hG.1 [] 80 _ _ _ _ ?_
      refine ⟨by omega, fun h3 => ?_, fun h3 => absurd h3 (by omega)⟩
      obtain ⟨k, rfl⟩ := z_nat hc.1
      have hkn : k < n := by omega
      refine hG.2.1 (c_Mo_allWeights ) yv_Mo_allWeights lk_Mo_79 (by decide +kernel) rfl rfl [0, 1, 2, 3, 4, 5, 6, 7, 8, 9, 10, 11, 12, 13, 14] (by decide +kernel) rfl rfl rfl (Nat.le_of_ble_eq_true rfl) (fun v w2 hv hl2 => ?_)
      obtain ⟨rfl, rfl⟩ := hv
      change G _ _ _ (wMo w ks ss n la su nm np ns sz tp tn pl rs rd lp ik kp km kn ln rz it)
      obtain ⟨t, ht⟩ := z_nat hsum.1
      refine hG.1 [] 80 _ _ _ _ ?_
      refine ⟨by omega, fun h4 => ?_, fun h4 => ?_⟩
      · refine hG.2.1 (c_Mo_meanParts (g := k) hkn hL hS hW) yv_Mo_meanParts lk_Mo_173 (by decide +kernel) rfl rfl [0, 1, 2, 3, 4, 5, 6, 7, 8, 9, 10, 11, 12, 13, 14] (by decide +kernel) rfl rfl rfl (Nat.le_of_ble_eq_true rfl) (fun v w2 hv hl2 => ?_)
        obtain ⟨rfl, rfl⟩ := hv
        change G _ _ _ (wMo w ks ss n la su nm np ns sz tp tn pl rs rd lp ik kp km kn ln rz it)
        have hb := zBu_in (w := w) (ss := ss) (n := n) (who := la 0) (ties := la 1) (g := k) hW
        obtain ⟨b, hbe⟩ := z_nat hb.1
        rw [hbe]
        refine hG.1 [] 80 _ _ _ _ ?_
        refine ⟨by omega, ?_⟩
        refine hG.2.1 (c_Mo_allWeights ) yv_Mo_allWeights lk_Mo_79 (by decide +kernel) rfl rfl [0, 1, 2, 3, 4, 5, 6, 7, 8, 9, 10, 11, 12, 13, 14] (by decide +kernel) rfl rfl rfl (Nat.le_of_ble_eq_true rfl) (fun v w2 hv hl2 => ?_)
        obtain ⟨rfl, rfl⟩ := hv
        change G _ _ _ (wMo w ks ss n la su nm np ns sz tp tn pl rs rd lp ik kp km kn ln rz it)
        rw [ht]
        refine hG.1 [] 80 _ _ _ _ ?_
        refine ⟨by omega, ?_⟩
        refine hG.2.2.1 (c_Mo_part (t := b) (b := 2520 * t) (part := part) (by omega) (by omega) hc4) ys_Mo_part (Or.inl lk_Mo_165) (by decide +kernel) rfl [] (by decide +kernel) rfl rfl rfl (Nat.le_of_ble_eq_true rfl) (fun v w2 hv hl2 => ?_)
        obtain ⟨rfl, rfl⟩ := hv
        change G _ _ _ (wMo w ks ss n la su nm np ns sz tp tn pl rs rd lp ik kp km kn ln rz it)
        refine hG.1 [] 80 _ _ _ _ ?_
        exact ⟨trivial, by rw [if_pos ⟨hc, hc4⟩, if_neg (by omega), Int.toNat_natCast, hbe, Int.toNat_natCast, ht, Int.toNat_natCast] <;> rfl, rfl⟩
      · exact ⟨trivial, by rw [if_pos ⟨hc, hc4⟩, if_pos (by omega)], rfl⟩
    · change G _ _ _ (wMo w ks ss n la su nm np ns sz tp tn pl rs rd lp ik kp km kn ln rz it)
      refine hG.1 [] 80 _ _ _ _ ?_
      refine ⟨by omega, fun h3 => absurd rfl h3, fun h3 => ?_⟩
      exact ⟨trivial, by rw [if_neg (fun z => hc3 (by have := z.2; omega))], rfl⟩
  · change G _ _ _ (wMo w ks ss n la su nm np ns sz tp tn pl rs rd lp ik kp km kn ln rz it)
    refine hG.1 [] 80 _ _ _ _ ?_
    refine ⟨by omega, fun h1 => ?_, fun h1 => absurd rfl h1⟩
    exact ⟨trivial, by rw [if_neg (fun z => hc z.1)], rfl⟩
end M13
