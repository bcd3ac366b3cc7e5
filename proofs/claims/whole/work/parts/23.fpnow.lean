/-! FARTHESTPAYS: the calls that reach the table of now alone -/
abbrev zSD : Type := (Int → Int) × (Int × Int)
abbrev zTD : Type := (Int → Int) × (zCD × ((Int → Int) × ((Nat → zCD) × Nat)))
abbrev wFp (img : Int) (w ks ss : Int → Int) (n : Nat) (who ties : Int) (su : Int → Int) (cs : Nat → zCD) (sz : Nat) (tl : zW) : zW := .inl (6, [.inr (.inr 1), .inr (.inr 46), .inl img, .inr (.inr 91), .inr (.inr 93), .inr (.inr 95), .inr (.inr 98)]) :: ((wTa w ks ss n who ties).map (z_ren [1, 2, 3, 4, 5, 6]) ++ ((wNi su cs sz).map (z_ren (List.range' 7 39)) ++ tl))
/-- nights' cells of now among the whole object's -/
theorem fn_pick {img : Int} {w ks ss : Int → Int} {n : Nat} {who ties : Int} {su : Int → Int} {cs : Nat → zCD} {sz : Nat} {tl : zW} : (List.range' 7 39).map (z_g (wFp img w ks ss n who ties su cs sz tl)) = (wNi su cs sz).map (fun c => some (z_ren (List.range' 7 39) c)) :=
  z_emb (z_ren (List.range' 7 39)) tl (wNi su cs sz) (.inl (6, [.inr (.inr 1), .inr (.inr 46), .inl img, .inr (.inr 91), .inr (.inr 93), .inr (.inr 95), .inr (.inr 98)]) :: (wTa w ks ss n who ties).map (z_ren [1, 2, 3, 4, 5, 6]))
theorem fn_back {img : Int} {w ks ss : Int → Int} {n : Nat} {who ties : Int} {su : Int → Int} {cs : Nat → zCD} {sz : Nat} {tl : zW} {su' : Int → Int} {cs' : Nat → zCD} {sz' : Nat} : z_sct (List.range' 7 39) (List.range' 7 39) (wNi su' cs' sz') (wFp img w ks ss n who ties su cs sz tl) = wFp img w ks ss n who ties su' cs' sz' tl :=
  z_embb (List.range' 7 39) tl (wNi su' cs' sz') ((wNi su cs sz).map (z_ren (List.range' 7 39))) (.inl (6, [.inr (.inr 1), .inr (.inr 46), .inl img, .inr (.inr 91), .inr (.inr 93), .inr (.inr 95), .inr (.inr 98)]) :: (wTa w ks ss n who ties).map (z_ren [1, 2, 3, 4, 5, 6])) rfl
section Fn
variable {img : Int} {w ks ss : Int → Int} {n : Nat} {who ties : Int} {su : Int → Int} {cs : Nat → zCD} {sz : Nat} {tl : zW}
theorem c_Fp_weight {x y : Int} (hx : -2147483648 ≤ x ∧ x ≤ 2147483647) (hy : -2147483648 ≤ y ∧ y ≤ 2147483647) :
    zMet m_Fp_weight [.inr (.inr 0), .inl x, .inl y] (wFp img w ks ss n who ties su cs sz tl) (fun v wd => (((0 ≤ x ∧ x < 21) ∧ (0 ≤ y ∧ y ≤ 99)) ∧ v = some (.inl (w x)) ∧ wd = wFp img (z_u w x y) ks ss n who ties su cs sz tl) ∨ (¬ ((0 ≤ x ∧ x < 21) ∧ (0 ≤ y ∧ y ≤ 99)) ∧ v = some (.inl (-1)) ∧ wd = wFp img w ks ss n who ties su cs sz tl)) := by
  refine zMet.of (own := RX6) rfl (by decide +kernel) tk_Fp_weight fok_Fp cok_Fp (Nat.le_of_ble_eq_true rfl) (fun G hG => ?_)
  refine hG.1 [] 80 _ _ _ _ ?_
  refine hG.2.2.1 (c_Fp_isSum hx) ys_Fp_isSum (Or.inl lk_Fp_51) (by decide +kernel) rfl [] (by decide +kernel) rfl rfl rfl (Nat.le_of_ble_eq_true rfl) (fun v w2 hv hl2 => ?_)
  obtain ⟨⟨hc, rfl⟩ | ⟨hc, rfl⟩, rfl⟩ := hv
  · refine hG.1 [19] 80 _ _ _ _ ?_
    refine ⟨by omega, fun h1 => absurd h1 (by omega), fun h1 => ?_⟩
    refine ⟨by omega, fun h2 => ?_, fun h2 => ?_⟩
    · exact ⟨trivial, Or.inr ⟨by omega, rfl, rfl⟩⟩
    · refine ⟨by omega, fun h3 => ?_, fun h3 => ?_⟩
      · refine hG.1 [] 80 _ _ _ _ ?_
        refine hG.2.1 (c_Su_weightOf (w := w) hc) yv_Su_weightOf lk_Fp_58 (by decide +kernel) rfl rfl [2, 3] (by decide +kernel) rfl rfl rfl (Nat.le_of_ble_eq_true rfl) (fun v w2 hv hl2 => ?_)
        obtain ⟨rfl, rfl⟩ := hv
        change G _ _ _ (wFp img w ks ss n who ties su cs sz tl)
        refine hG.1 [] 80 _ _ _ _ ?_
        refine hG.2.1 (c_Su_putWeight (w := w) (v0 := y) hc) yv_Su_putWeight lk_Fp_62 (by decide +kernel) rfl rfl [2, 3] (by decide +kernel) rfl rfl rfl (Nat.le_of_ble_eq_true rfl) (fun v w2 hv hl2 => ?_)
        obtain ⟨rfl, rfl⟩ := hv
        change G _ _ _ (wFp img (z_u w x y) ks ss n who ties su cs sz tl)
        refine hG.1 [] 80 _ _ _ _ ?_
        exact ⟨trivial, Or.inl ⟨by omega, rfl, rfl⟩⟩
      · exact ⟨trivial, Or.inr ⟨by omega, rfl, rfl⟩⟩
  · refine hG.1 [19] 80 _ _ _ _ ?_
    refine ⟨by omega, fun h1 => ?_, fun h1 => absurd rfl h1⟩
    exact ⟨trivial, Or.inr ⟨fun z => hc z.1, rfl, rfl⟩⟩
theorem c_Fp_guest {x : Int} (hx : -2147483648 ≤ x ∧ x ≤ 2147483647) (hn : n ≤ 9) :
    zMet m_Fp_guest [.inr (.inr 0), .inl x] (wFp img w ks ss n who ties su cs sz tl) (fun v wd => ((0 ≤ x ∧ x ≤ 3) ∧ n < 9 ∧ v = some (.inl (n : Int)) ∧ wd = wFp img w (z_u ks n x) (z_u ss n 0) (n + 1) who ties su cs sz tl) ∨ ((0 ≤ x ∧ x ≤ 3) ∧ ¬ n < 9 ∧ v = some (.inl (-3)) ∧ wd = wFp img w ks ss n who ties su cs sz tl) ∨ (¬ (0 ≤ x ∧ x ≤ 3) ∧ v = some (.inl (-1)) ∧ wd = wFp img w ks ss n who ties su cs sz tl)) := by
  refine zMet.of (own := RX6) rfl (by decide +kernel) tk_Fp_guest fok_Fp cok_Fp (Nat.le_of_ble_eq_true rfl) (fun G hG => ?_)
  refine hG.1 [11] 80 _ _ _ _ ?_
  refine ⟨by omega, fun h1 => ?_, fun h1 => ?_⟩
  · exact ⟨trivial, Or.inr (Or.inr ⟨by omega, rfl, rfl⟩)⟩
  · refine ⟨by omega, fun h2 => ?_, fun h2 => ?_⟩
    · refine hG.1 [] 80 _ _ _ _ ?_
      refine hG.2.1 (c_Co_size (ks := ks) (ss := ss) (n := n) (who := who) (ties := ties)) yv_Co_size lk_Fp_69 (by decide +kernel) rfl rfl [4, 5, 6] (by decide +kernel) rfl rfl rfl (Nat.le_of_ble_eq_true rfl) (fun v w2 hv hl2 => ?_)
      obtain ⟨rfl, rfl⟩ := hv
      change G _ _ _ (wFp img w ks ss n who ties su cs sz tl)
      refine hG.1 [] 80 _ _ _ _ ?_
      refine ⟨by omega, fun h3 => ?_, fun h3 => ?_⟩
      · refine hG.2.1 (c_Co_seat (ks := ks) (ss := ss) (n := n) (who := who) (ties := ties) (k := x) (x := 0) (by omega)) yv_Co_seat lk_Fp_73 (by decide +kernel) rfl rfl [4, 5, 6] (by decide +kernel) rfl rfl rfl (Nat.le_of_ble_eq_true rfl) (fun v w2 hv hl2 => ?_)
        obtain ⟨rfl, rfl⟩ := hv
        change G _ _ _ (wFp img w (z_u ks n x) (z_u ss n 0) (n + 1) who ties su cs sz tl)
        refine hG.1 [] 80 _ _ _ _ ?_
        refine hG.2.1 (c_Co_size (ks := z_u ks n x) (ss := z_u ss n 0) (n := n + 1) (who := who) (ties := ties)) yv_Co_size lk_Fp_69 (by decide +kernel) rfl rfl [4, 5, 6] (by decide +kernel) rfl rfl rfl (Nat.le_of_ble_eq_true rfl) (fun v w2 hv hl2 => ?_)
        obtain ⟨rfl, rfl⟩ := hv
        change G _ _ _ (wFp img w (z_u ks n x) (z_u ss n 0) (n + 1) who ties su cs sz tl)
        refine hG.1 [] 80 _ _ _ _ ?_
        exact ⟨trivial, Or.inl ⟨by omega, by omega, by congr 2; omega, rfl⟩⟩
      · exact ⟨trivial, Or.inr (Or.inl ⟨by omega, by omega, rfl, rfl⟩)⟩
    · exact ⟨trivial, Or.inr (Or.inr ⟨by omega, rfl, rfl⟩)⟩
theorem c_Fp_slip {g x : Int} (hg : -2147483648 ≤ g ∧ g ≤ 2147483647) (hx : -2147483648 ≤ x ∧ x ≤ 2147483647) (hn : n ≤ 9) (hK : zOkK ks n) :
    zMet m_Fp_slip [.inr (.inr 0), .inl g, .inl x] (wFp img w ks ss n who ties su cs sz tl) (fun v wd => (((0 ≤ g ∧ g < n) ∧ (0 ≤ x ∧ x < 21)) ∧ (ks g = 2 ∧ x ≠ 0) ∧ v = some (.inl (-2)) ∧ wd = wFp img w ks ss n who ties su cs sz tl) ∨ (((0 ≤ g ∧ g < n) ∧ (0 ≤ x ∧ x < 21)) ∧ ¬ (ks g = 2 ∧ x ≠ 0) ∧ v = some (.inl (ss g)) ∧ wd = wFp img w ks (z_u ss g x) n who ties su cs sz tl) ∨ (¬ ((0 ≤ g ∧ g < n) ∧ (0 ≤ x ∧ x < 21)) ∧ v = some (.inl (-1)) ∧ wd = wFp img w ks ss n who ties su cs sz tl)) := by
  refine zMet.of (own := RX6) rfl (by decide +kernel) tk_Fp_slip fok_Fp cok_Fp (Nat.le_of_ble_eq_true rfl) (fun G hG => ?_)
  refine hG.1 [] 80 _ _ _ _ ?_
  refine hG.2.1 (c_Co_has hg hn) yv_Co_has lk_Fp_76 (by decide +kernel) rfl rfl [4, 5, 6] (by decide +kernel) rfl rfl rfl (Nat.le_of_ble_eq_true rfl) (fun v w2 hv hl2 => ?_)
  obtain ⟨⟨hc, rfl⟩ | ⟨hc, rfl⟩, rfl⟩ := hv
  · change G _ _ _ (wFp img w ks ss n who ties su cs sz tl)
    refine hG.1 [] 80 _ _ _ _ ?_
    refine ⟨by omega, fun h1 => absurd h1 (by omega), fun h1 => ?_⟩
    refine hG.2.2.1 (c_Fp_isSum hx) ys_Fp_isSum (Or.inl lk_Fp_51) (by decide +kernel) rfl [] (by decide +kernel) rfl rfl rfl (Nat.le_of_ble_eq_true rfl) (fun v w2 hv hl2 => ?_)
    obtain ⟨⟨hc2, rfl⟩ | ⟨hc2, rfl⟩, rfl⟩ := hv
    · change G _ _ _ (wFp img w ks ss n who ties su cs sz tl)
      refine hG.1 [] 80 _ _ _ _ ?_
      refine ⟨by omega, fun h2 => ?_, fun h2 => absurd h2 (by omega)⟩
      obtain ⟨k, rfl⟩ := z_nat hc.1
      have hkn : k < n := by omega
      refine hG.2.1 (c_Co_isNought hkn hn (hK k hkn)) yv_Co_isNought lk_Fp_79 (by decide +kernel) rfl rfl [4, 5, 6] (by decide +kernel) rfl rfl rfl (Nat.le_of_ble_eq_true rfl) (fun v w2 hv hl2 => ?_)
      have rest : ¬ (ks k = 2 ∧ x ≠ 0) → G 44 [(0, .inr (.inr 0)), (1, .inl (k : Int)), (2, .inl x)] [] (wFp img w ks ss n who ties su cs sz tl) := by
        intro hno
        refine hG.1 [] 80 _ _ _ _ ?_
        refine hG.2.1 (c_Co_slipOf hkn hn) yv_Co_slipOf lk_Fp_82 (by decide +kernel) rfl rfl [4, 5, 6] (by decide +kernel) rfl rfl rfl (Nat.le_of_ble_eq_true rfl) (fun v w2 hv hl2 => ?_)
        obtain ⟨rfl, rfl⟩ := hv
        change G _ _ _ (wFp img w ks ss n who ties su cs sz tl)
        refine hG.1 [] 80 _ _ _ _ ?_
        refine hG.2.1 (c_Co_putSlip (x := x) hkn hn) yv_Co_putSlip lk_Fp_85 (by decide +kernel) rfl rfl [4, 5, 6] (by decide +kernel) rfl rfl rfl (Nat.le_of_ble_eq_true rfl) (fun v w2 hv hl2 => ?_)
        obtain ⟨rfl, rfl⟩ := hv
        change G _ _ _ (wFp img w ks (z_u ss k x) n who ties su cs sz tl)
        refine hG.1 [] 80 _ _ _ _ ?_
        exact ⟨trivial, Or.inr (Or.inl ⟨⟨hc, hc2⟩, hno, rfl, rfl⟩)⟩
      obtain ⟨⟨hc3, rfl⟩ | ⟨hc3, rfl⟩, rfl⟩ := hv
      · change G _ _ _ (wFp img w ks ss n who ties su cs sz tl)
        refine hG.1 [44] 80 _ _ _ _ ?_
        refine ⟨by omega, fun h3 => absurd h3 (by omega), fun h3 => ?_⟩
        refine ⟨by omega, fun h4 => ?_, fun h4 => ?_⟩
        · exact rest (fun z => z.2 h4)
        · exact ⟨trivial, Or.inl ⟨⟨hc, hc2⟩, ⟨hc3, h4⟩, rfl, rfl⟩⟩
      · change G _ _ _ (wFp img w ks ss n who ties su cs sz tl)
        refine hG.1 [44] 80 _ _ _ _ ?_
        refine ⟨by omega, fun h3 => ?_, fun h3 => absurd rfl h3⟩
        exact rest (fun z => hc3 z.1)
    · change G _ _ _ (wFp img w ks ss n who ties su cs sz tl)
      refine hG.1 [] 80 _ _ _ _ ?_
      refine ⟨by omega, fun h2 => absurd rfl h2, fun h2 => ?_⟩
      exact ⟨trivial, Or.inr (Or.inr ⟨fun z => hc2 z.2, rfl, rfl⟩)⟩
  · change G _ _ _ (wFp img w ks ss n who ties su cs sz tl)
    refine hG.1 [] 80 _ _ _ _ ?_
    refine ⟨by omega, fun h1 => ?_, fun h1 => absurd rfl h1⟩
    exact ⟨trivial, Or.inr (Or.inr ⟨fun z => hc z.1, rfl, rfl⟩)⟩
theorem c_Fp_write {x : Int} (hx : -2147483648 ≤ x ∧ x ≤ 2147483647) (hn : n ≤ 9) (hK : zOkK ks n) (hS : zOkS ss n) (hW : zOkW w) :
    zMet m_Fp_write [.inr (.inr 0), .inl x] (wFp img w ks ss n who ties su cs sz tl) (fun v wd => ((0 ≤ x ∧ x < 21) ∧ zSumN w 21 = 0 ∧ v = some (.inl (-2)) ∧ wd = wFp img w ks ss n who ties su cs sz tl) ∨ ((0 ≤ x ∧ x < 21) ∧ zSumN w 21 ≠ 0 ∧ v = some (.inl (zChgN ks ss x (zMean w) n : Int)) ∧ wd = wFp img w ks (zWr ks ss x (zMean w) n) n who ties su cs sz tl) ∨ (¬ (0 ≤ x ∧ x < 21) ∧ v = some (.inl (-1)) ∧ wd = wFp img w ks ss n who ties su cs sz tl)) := by
  have hsum := zSumN_in hW
  have hmean := zMean_in hW
  refine zMet.of (own := RX6) rfl (by decide +kernel) tk_Fp_write fok_Fp cok_Fp (Nat.le_of_ble_eq_true rfl) (fun G hG => ?_)
  refine hG.1 [] 80 _ _ _ _ ?_
  refine hG.2.2.1 (c_Fp_isSum hx) ys_Fp_isSum (Or.inl lk_Fp_51) (by decide +kernel) rfl [] (by decide +kernel) rfl rfl rfl (Nat.le_of_ble_eq_true rfl) (fun v w2 hv hl2 => ?_)
  obtain ⟨⟨hc, rfl⟩ | ⟨hc, rfl⟩, rfl⟩ := hv
  · change G _ _ _ (wFp img w ks ss n who ties su cs sz tl)
    refine hG.1 [] 80 _ _ _ _ ?_
    refine ⟨by omega, fun h1 => ?_, fun h1 => absurd h1 (by omega)⟩
    refine hG.2.1 (c_Su_together (w := w)) yv_Su_together lk_Fp_88 (by decide +kernel) rfl rfl [2, 3] (by decide +kernel) rfl rfl rfl (Nat.le_of_ble_eq_true rfl) (fun v w2 hv hl2 => ?_)
    obtain ⟨rfl, rfl⟩ := hv
    change G _ _ _ (wFp img w ks ss n who ties su cs sz tl)
    refine hG.1 [] 80 _ _ _ _ ?_
    refine ⟨by omega, fun h2 => ?_, fun h2 => ?_⟩
    · refine hG.2.1 (c_Su_meanSum (w := w) hW) yv_Su_meanSum lk_Fp_91 (by decide +kernel) rfl rfl [2, 3] (by decide +kernel) rfl rfl rfl (Nat.le_of_ble_eq_true rfl) (fun v w2 hv hl2 => ?_)
      obtain ⟨rfl, rfl⟩ := hv
      change G _ _ _ (wFp img w ks ss n who ties su cs sz tl)
      refine hG.1 [] 80 _ _ _ _ ?_
      refine hG.2.1 (c_Co_writeAlone (ks := ks) (ss := ss) (sum := x) (mean := zMean w) hn hK hS (by omega) hmean) yv_Co_writeAlone lk_Fp_94 (by decide +kernel) rfl rfl [4, 5, 6] (by decide +kernel) rfl rfl rfl (Nat.le_of_ble_eq_true rfl) (fun v w2 hv hl2 => ?_)
      obtain ⟨rfl, rfl⟩ := hv
      change G _ _ _ (wFp img w ks (zWr ks ss x (zMean w) n) n who ties su cs sz tl)
      refine hG.1 [] 80 _ _ _ _ ?_
      exact ⟨trivial, Or.inr (Or.inl ⟨hc, h2, rfl, rfl⟩)⟩
    · exact ⟨trivial, Or.inl ⟨hc, h2, rfl, rfl⟩⟩
  · change G _ _ _ (wFp img w ks ss n who ties su cs sz tl)
    refine hG.1 [] 80 _ _ _ _ ?_
    refine ⟨by omega, fun h1 => absurd rfl h1, fun h1 => ?_⟩
    exact ⟨trivial, Or.inr (Or.inr ⟨hc, rfl, rfl⟩)⟩
theorem c_Fp_told {g x : Int} (hg : -2147483648 ≤ g ∧ g ≤ 2147483647) (hx : -2147483648 ≤ x ∧ x ≤ 2147483647) (hn : n ≤ 9) :
    zMet m_Fp_told [.inr (.inr 0), .inl g, .inl x] (wFp img w ks ss n who ties su cs sz tl) (fun v wd => v = some (.inl (if (0 ≤ g ∧ g < n) ∧ (0 ≤ x ∧ x ≤ 1) then (if x = 0 then ks g else ss g) else -1)) ∧ wd = wFp img w ks ss n who ties su cs sz tl) := by
  refine zMet.of (own := RX6) rfl (by decide +kernel) tk_Fp_told fok_Fp cok_Fp (Nat.le_of_ble_eq_true rfl) (fun G hG => ?_)
  refine hG.1 [] 80 _ _ _ _ ?_
  refine hG.2.1 (c_Co_has hg hn) yv_Co_has lk_Fp_76 (by decide +kernel) rfl rfl [4, 5, 6] (by decide +kernel) rfl rfl rfl (Nat.le_of_ble_eq_true rfl) (fun v w2 hv hl2 => ?_)
  obtain ⟨⟨hc, rfl⟩ | ⟨hc, rfl⟩, rfl⟩ := hv
  · change G _ _ _ (wFp img w ks ss n who ties su cs sz tl)
    obtain ⟨k, rfl⟩ := z_nat hc.1
    have hkn : k < n := by omega
    refine hG.1 [25] 80 _ _ _ _ ?_
    refine ⟨by omega, fun h1 => absurd h1 (by omega), fun h1 => ?_⟩
    refine ⟨by omega, fun h2 => ?_, fun h2 => ?_⟩
    · exact ⟨trivial, by rw [if_neg (by omega)], rfl⟩
    · refine ⟨by omega, fun h3 => ?_, fun h3 => ?_⟩
      · refine hG.1 [] 80 _ _ _ _ ?_
        refine ⟨by omega, fun h4 => ?_, fun h4 => ?_⟩
        · refine hG.2.1 (c_Co_slipOf hkn hn) yv_Co_slipOf lk_Fp_82 (by decide +kernel) rfl rfl [4, 5, 6] (by decide +kernel) rfl rfl rfl (Nat.le_of_ble_eq_true rfl) (fun v w2 hv hl2 => ?_)
          obtain ⟨rfl, rfl⟩ := hv
          change G _ _ _ (wFp img w ks ss n who ties su cs sz tl)
          refine hG.1 [] 80 _ _ _ _ ?_
          exact ⟨trivial, by rw [if_pos (by omega), if_neg h4] <;> rfl, rfl⟩
        · refine hG.2.1 (c_Co_kindOf hkn hn) yv_Co_kindOf lk_Fp_98 (by decide +kernel) rfl rfl [4, 5, 6] (by decide +kernel) rfl rfl rfl (Nat.le_of_ble_eq_true rfl) (fun v w2 hv hl2 => ?_)
          obtain ⟨rfl, rfl⟩ := hv
          change G _ _ _ (wFp img w ks ss n who ties su cs sz tl)
          refine hG.1 [] 80 _ _ _ _ ?_
          exact ⟨trivial, by rw [if_pos (by omega), if_pos h4] <;> rfl, rfl⟩
      · exact ⟨trivial, by rw [if_neg (by omega)], rfl⟩
  · change G _ _ _ (wFp img w ks ss n who ties su cs sz tl)
    refine hG.1 [] 80 _ _ _ _ ?_
    refine ⟨by omega, fun h1 => ?_, fun h1 => absurd rfl h1⟩
    exact ⟨trivial, by rw [if_neg (fun z => hc z.1)], rfl⟩
theorem c_Fp_rule {g x : Int} (hg : -2147483648 ≤ g ∧ g ≤ 2147483647) (hx : -2147483648 ≤ x ∧ x ≤ 2147483647) :
    zMet m_Fp_rule [.inr (.inr 0), .inl g, .inl x] (wFp img w ks ss n who ties su cs sz tl) (fun v wd => ((g = 0 ∧ 0 ≤ x ∧ x ≤ 3) ∧ v = some (.inl who) ∧ wd = wFp img w ks ss n x ties su cs sz tl) ∨ ((g = 1 ∧ 0 ≤ x ∧ x ≤ 2) ∧ v = some (.inl ties) ∧ wd = wFp img w ks ss n who x su cs sz tl) ∨ (¬ (g = 0 ∧ 0 ≤ x ∧ x ≤ 3) ∧ ¬ (g = 1 ∧ 0 ≤ x ∧ x ≤ 2) ∧ v = some (.inl (-1)) ∧ wd = wFp img w ks ss n who ties su cs sz tl)) := by
  refine zMet.of (own := RX6) rfl (by decide +kernel) tk_Fp_rule fok_Fp cok_Fp (Nat.le_of_ble_eq_true rfl) (fun G hG => ?_)
  have last : ¬ (g = 0 ∧ 0 ≤ x ∧ x ≤ 3) → G 25 [(0, .inr (.inr 0)), (1, .inl g), (2, .inl x)] [] (wFp img w ks ss n who ties su cs sz tl) := by
    intro hno
    refine hG.1 [] 80 _ _ _ _ ?_
    refine ⟨by omega, fun h1 => ?_, fun h1 => ?_⟩
    · exact ⟨trivial, Or.inr (Or.inr ⟨hno, by omega, rfl, rfl⟩)⟩
    · refine ⟨by omega, fun h2 => ?_, fun h2 => ?_⟩
      · exact ⟨trivial, Or.inr (Or.inr ⟨hno, by omega, rfl, rfl⟩)⟩
      · refine ⟨by omega, fun h3 => ?_, fun h3 => ?_⟩
        · exact ⟨trivial, Or.inr (Or.inr ⟨hno, by omega, rfl, rfl⟩)⟩
        · refine hG.2.1 (c_Co_changeTies (x := x)) yv_Co_changeTies lk_Fp_104 (by decide +kernel) rfl rfl [4, 5, 6] (by decide +kernel) rfl rfl rfl (Nat.le_of_ble_eq_true rfl) (fun v w2 hv hl2 => ?_)
          obtain ⟨rfl, rfl⟩ := hv
          change G _ _ _ (wFp img w ks ss n who x su cs sz tl)
          refine hG.1 [] 80 _ _ _ _ ?_
          exact ⟨trivial, Or.inr (Or.inl ⟨by omega, rfl, rfl⟩)⟩
  refine hG.1 [25] 80 _ _ _ _ ?_
  refine ⟨by omega, fun h1 => ?_, fun h1 => ?_⟩
  · exact last (by omega)
  · refine ⟨by omega, fun h2 => ?_, fun h2 => ?_⟩
    · exact last (by omega)
    · refine ⟨by omega, fun h3 => ?_, fun h3 => ?_⟩
      · exact last (by omega)
      · refine hG.2.1 (c_Co_changeWho (x := x)) yv_Co_changeWho lk_Fp_101 (by decide +kernel) rfl rfl [4, 5, 6] (by decide +kernel) rfl rfl rfl (Nat.le_of_ble_eq_true rfl) (fun v w2 hv hl2 => ?_)
        obtain ⟨rfl, rfl⟩ := hv
        change G _ _ _ (wFp img w ks ss n x ties su cs sz tl)
        refine hG.1 [] 80 _ _ _ _ ?_
        exact ⟨trivial, Or.inl ⟨by omega, rfl, rfl⟩⟩
theorem c_Fp_count {x : Int} (hx : -2147483648 ≤ x ∧ x ≤ 2147483647) (hW : zOkW w) :
    zMet m_Fp_count [.inr (.inr 0), .inl x] (wFp img w ks ss n who ties su cs sz tl) (fun v wd => v = some (.inl (if x = 0 then (n : Int) else if x = 1 then (zPosN w 21 : Int) else if x = 2 then zSumN w 21 else if x = 3 then (sz : Int) else -1)) ∧ wd = wFp img w ks ss n who ties su cs sz tl) := by
  refine zMet.of (own := RX6) rfl (by decide +kernel) tk_Fp_count fok_Fp cok_Fp (Nat.le_of_ble_eq_true rfl) (fun G hG => ?_)
  refine hG.1 [] 80 _ _ _ _ ?_
  refine ⟨by omega, fun h1 => ?_, fun h1 => ?_, fun h1 => ?_, fun h1 => ?_, fun h1 => ?_, trivial⟩
  · exact ⟨trivial, by rw [if_neg (by omega), if_neg (by omega), if_neg (by omega), if_neg (by omega)], rfl⟩
  · refine hG.2.1 (c_Co_size ) yv_Co_size lk_Fp_69 (by decide +kernel) rfl rfl [4, 5, 6] (by decide +kernel) rfl rfl rfl (Nat.le_of_ble_eq_true rfl) (fun v w2 hv hl2 => ?_)
    obtain ⟨rfl, rfl⟩ := hv
    change G _ _ _ (wFp img w ks ss n who ties su cs sz tl)
    refine hG.1 [] 80 _ _ _ _ ?_
    exact ⟨trivial, by rw [if_pos h1] <;> rfl, rfl⟩
  · refine hG.2.1 (c_Su_sumsOfWeight (w := w) hW) yv_Su_sumsOfWeight lk_Fp_145 (by decide +kernel) rfl rfl [2, 3] (by decide +kernel) rfl rfl rfl (Nat.le_of_ble_eq_true rfl) (fun v w2 hv hl2 => ?_)
    obtain ⟨rfl, rfl⟩ := hv
    change G _ _ _ (wFp img w ks ss n who ties su cs sz tl)
    refine hG.1 [] 80 _ _ _ _ ?_
    exact ⟨trivial, by rw [if_neg (by omega), if_pos (by omega)] <;> rfl, rfl⟩
  · refine hG.2.1 (c_Su_together (w := w)) yv_Su_together lk_Fp_88 (by decide +kernel) rfl rfl [2, 3] (by decide +kernel) rfl rfl rfl (Nat.le_of_ble_eq_true rfl) (fun v w2 hv hl2 => ?_)
    obtain ⟨rfl, rfl⟩ := hv
    change G _ _ _ (wFp img w ks ss n who ties su cs sz tl)
    refine hG.1 [] 80 _ _ _ _ ?_
    exact ⟨trivial, by rw [if_neg (by omega), if_neg (by omega), if_pos (by omega)] <;> rfl, rfl⟩
  · refine hG.2.1 (c_Ni_size (su := su) (cs := cs) (sz := sz)) yv_Ni_size lk_Fp_148 (by decide +kernel) rfl rfl (List.range' 7 39) (by decide +kernel) fn_pick rfl rfl (Nat.le_of_ble_eq_true rfl) (fun v w2 hv hl2 => ?_)
    obtain ⟨rfl, rfl⟩ := hv
    rw [fn_back]
    refine hG.1 [] 80 _ _ _ _ ?_
    exact ⟨trivial, by rw [if_neg (by omega), if_neg (by omega), if_neg (by omega), if_pos (by omega)] <;> rfl, rfl⟩
theorem c_Fp_pay {x : Int} (hx : -2147483648 ≤ x ∧ x ≤ 2147483647) (hL : zOkL n who ties) (hS : zOkS ss n) :
    zMet m_Fp_pay [.inr (.inr 0), .inl x] (wFp img w ks ss n who ties su cs sz tl) (fun v wd => v = some (.inl (if ¬ (0 ≤ x ∧ x < 21) then -1 else if n = 0 then -4 else (zMaskN (zPay ss n who ties x) n : Int))) ∧ wd = wFp img w ks ss n who ties su cs sz tl) := by
  obtain ⟨hn, hwho, hties⟩ := hL
  refine zMet.of (own := RX6) rfl (by decide +kernel) tk_Fp_pay fok_Fp cok_Fp (Nat.le_of_ble_eq_true rfl) (fun G hG => ?_)
  refine hG.1 [] 80 _ _ _ _ ?_
  refine hG.2.2.1 (c_Fp_isSum hx) ys_Fp_isSum (Or.inl lk_Fp_51) (by decide +kernel) rfl [] (by decide +kernel) rfl rfl rfl (Nat.le_of_ble_eq_true rfl) (fun v w2 hv hl2 => ?_)
  obtain ⟨⟨hc, rfl⟩ | ⟨hc, rfl⟩, rfl⟩ := hv
  · change G _ _ _ (wFp img w ks ss n who ties su cs sz tl)
    refine hG.1 [] 80 _ _ _ _ ?_
    refine ⟨by omega, fun h1 => ?_, fun h1 => absurd h1 (by omega)⟩
    refine hG.2.1 (c_Co_size ) yv_Co_size lk_Fp_69 (by decide +kernel) rfl rfl [4, 5, 6] (by decide +kernel) rfl rfl rfl (Nat.le_of_ble_eq_true rfl) (fun v w2 hv hl2 => ?_)
    obtain ⟨rfl, rfl⟩ := hv
    change G _ _ _ (wFp img w ks ss n who ties su cs sz tl)
    refine hG.1 [] 80 _ _ _ _ ?_
    refine ⟨by omega, fun h2 => ?_, fun h2 => ?_⟩
    · refine hG.2.1 (c_Co_payers (sum := x) hn hwho hties hS (by omega)) yv_Co_payers lk_Fp_149 (by decide +kernel) rfl rfl [4, 5, 6] (by decide +kernel) rfl rfl rfl (Nat.le_of_ble_eq_true rfl) (fun v w2 hv hl2 => ?_)
      obtain ⟨rfl, rfl⟩ := hv
      change G _ _ _ (wFp img w ks ss n who ties su cs sz tl)
      refine hG.1 [] 80 _ _ _ _ ?_
      exact ⟨trivial, by rw [if_neg (by omega), if_neg (by omega)] <;> rfl, rfl⟩
    · exact ⟨trivial, by rw [if_neg (by omega), if_pos (by omega)], rfl⟩
  · change G _ _ _ (wFp img w ks ss n who ties su cs sz tl)
    refine hG.1 [] 80 _ _ _ _ ?_
    refine ⟨by omega, fun h1 => absurd rfl h1, fun h1 => ?_⟩
    exact ⟨trivial, by rw [if_pos hc], rfl⟩
end Fn
