/-! THE REFERENCE: its world, numbers, weights, guests, laws -/
abbrev wMo (w ks ss : Int → Int) (n : Nat) (la su nm np ns : Int → Int) (sz : Nat) (tp : Int → Int) (tn pl : Nat) (rs : Int) (rd : Int → Int) (lp ik : Int) (kp : Int → Int) (km kn : Int) (ln rz it : Int → Int) : zW := [.inl (7, [.inr (.inr 1), .inr (.inr 2), .inr (.inr 3), .inr (.inr 4), .inl (n : Int), .inr (.inr 5), .inr (.inr 6), .inr (.inr 7), .inr (.inr 8), .inl (sz : Int), .inr (.inr 9), .inl (tn : Int), .inl (pl : Int), .inl rs, .inr (.inr 10), .inl lp, .inl ik, .inr (.inr 11), .inl km, .inl kn, .inr (.inr 12), .inr (.inr 13), .inr (.inr 14)]), .inr (0, (21, .inl w)), .inr (0, (9, .inl ks)), .inr (0, (9, .inl ss)), .inr (0, (2, .inl la)), .inr (0, (12, .inl su)), .inr (0, (12, .inl nm)), .inr (0, (12, .inl np)), .inr (0, (108, .inl ns)), .inr (0, (80, .inl tp)), .inr (0, (21, .inl rd)), .inr (0, (185, .inl kp)), .inr (0, (4, .inl ln)), .inr (0, (4, .inl rz)), .inr (0, (96, .inr (.inl it)))]
theorem c_Mo_in {a b c : Int} (ha : -9223372036854775808 ≤ a ∧ a ≤ 9223372036854775807) (hb : -9223372036854775808 ≤ b ∧ b ≤ 9223372036854775807) (hc : -9223372036854775808 ≤ c ∧ c ≤ 9223372036854775807) : zMet m_Mo_in [.inr (.inl a), .inr (.inl b), .inr (.inl c)] [] (fun v w => z_bool (b ≤ a ∧ a ≤ c) v ∧ w = []) := by
  refine zMet.of (own := RX7) rfl (by decide +kernel) tk_Mo_in fok_Mo cok_Mo (Nat.le_of_ble_eq_true rfl) (fun G hG => ?_)
  refine hG.1 [] 80 _ _ _ _ ?_
  refine ⟨by omega, fun h1 => ?_, fun h1 => ?_⟩
  · exact ⟨Or.inl rfl, Or.inr ⟨by omega, rfl⟩, rfl⟩
  · refine ⟨by omega, fun h2 => ?_, fun h2 => ?_⟩
    · exact ⟨Or.inl rfl, Or.inr ⟨by omega, rfl⟩, rfl⟩
    · exact ⟨Or.inr rfl, Or.inl ⟨by omega, rfl⟩, rfl⟩
theorem c_Mo_isSum {x : Int} (hx : -9223372036854775808 ≤ x ∧ x ≤ 9223372036854775807) : zMet m_Mo_isSum [.inr (.inl x)] [] (fun v w => z_bool (0 ≤ x ∧ x < 21) v ∧ w = []) := by
  refine zMet.of (own := RX7) rfl (by decide +kernel) tk_Mo_isSum fok_Mo cok_Mo (Nat.le_of_ble_eq_true rfl) (fun G hG => ?_)
  refine hG.1 [] 80 _ _ _ _ ?_
  refine hG.2.2.1 (c_Mo_in (a := x) (b := 0) (c := 20) hx (by omega) (by omega)) ys_Mo_in (Or.inl lk_Mo_55) (by decide +kernel) rfl [] (by decide +kernel) rfl rfl rfl (Nat.le_of_ble_eq_true rfl) (fun v w2 hv hl2 => ?_)
  obtain ⟨⟨hc, rfl⟩ | ⟨hc, rfl⟩, rfl⟩ := hv
  · refine hG.1 [] 80 _ _ _ _ ?_
    exact ⟨Or.inr rfl, Or.inl ⟨by omega, rfl⟩, rfl⟩
  · refine hG.1 [] 80 _ _ _ _ ?_
    exact ⟨Or.inl rfl, Or.inr ⟨by omega, rfl⟩, rfl⟩
theorem c_Mo_has {x : Int} {g : Nat} (hx : -2147483648 ≤ x ∧ x ≤ 2147483647) (hg : g < 31) : zMet m_Mo_has [.inl x, .inl (g : Int)] [] (fun v w => z_bool (zBit x g) v ∧ w = []) := by
  have hand := z_and_in (x / 2 ^ (g : Int).toNat) 1
  refine zMet.of (own := RX7) rfl (by decide +kernel) tk_Mo_has fok_Mo cok_Mo (Nat.le_of_ble_eq_true rfl) (fun G hG => ?_)
  refine hG.1 [] 80 _ _ _ _ ?_
  refine ⟨by omega, by omega, fun h1 => ?_, fun h1 => ?_⟩
  · exact ⟨Or.inl rfl, Or.inr ⟨h1, rfl⟩, rfl⟩
  · exact ⟨Or.inr rfl, Or.inl ⟨h1, rfl⟩, rfl⟩
theorem zPop_on : ∀ s : Nat, s < 512 → 0 < s → (z_and (s : Nat) ((s : Nat) - 1) = ((z_and (s : Nat) ((s : Nat) - 1)).toNat : Int) ∧ (z_and (s : Nat) ((s : Nat) - 1)).toNat < s ∧ zPop 9 s = zPop 9 (z_and (s : Nat) ((s : Nat) - 1)).toNat + 1) := by decide +kernel
theorem zPop_9 : ∀ s : Nat, s < 512 → zPop 9 s ≤ 9 := by decide +kernel
theorem c_Mo_ones {s : Nat} (hs : s < 512) : zMet m_Mo_ones [.inl (s : Int)] [] (fun v w => v = some (.inl (zPop 9 s : Int)) ∧ w = []) := by
  have h9 := zPop_9 s hs
  refine zMet.of (own := RX7) rfl (by decide +kernel) tk_Mo_ones fok_Mo cok_Mo (Nat.le_of_ble_eq_true rfl) (fun G hG => ?_)
  refine hG.1 [4] 80 _ _ _ _ ?_
  have key : ∀ m t c : Nat, t < m → t < 512 → c + zPop 9 t = zPop 9 s → G 4 [(0, .inl (s : Int)), (1, .inl (c : Int)), (2, .inl (t : Int))] [] [] := by
    intro m
    induction m with
    | zero => intro t c h; omega
    | succ m ih =>
      intro t c h h5 he
      refine hG.1 [4] 80 _ _ _ _ ?_
      refine ⟨by omega, fun q => ?_, fun q => ?_⟩
      · have ht : t = 0 := by omega
        subst ht
        have h0 : zPop 9 0 = 0 := by decide
        exact ⟨trivial, by rw [← he, h0] <;> rfl, rfl⟩
      · obtain ⟨e1, e2, e3⟩ := zPop_on t h5 (by omega)
        have h6 := ih (z_and (t : Nat) ((t : Nat) - 1)).toNat (c + 1) (by omega) (by omega) (by omega)
        rw [← e1] at h6
        exact h6
  exact key 512 s 0 hs hs (by omega)
section M1
variable {w ks ss : Int → Int} {n : Nat} {la su nm np ns : Int → Int} {sz : Nat} {tp : Int → Int} {tn pl : Nat} {rs : Int} {rd : Int → Int} {lp ik : Int} {kp : Int → Int} {km kn : Int} {ln rz it : Int → Int}
theorem c_Mo_isGuest {g : Int} (hg : -2147483648 ≤ g ∧ g ≤ 2147483647) (hn : n ≤ 9) : zMet m_Mo_isGuest [.inr (.inr 0), .inl g] (wMo w ks ss n la su nm np ns sz tp tn pl rs rd lp ik kp km kn ln rz it) (fun v wd => z_bool (0 ≤ g ∧ g < n) v ∧ wd = wMo w ks ss n la su nm np ns sz tp tn pl rs rd lp ik kp km kn ln rz it) := by
  refine zMet.of (own := RX7) rfl (by decide +kernel) tk_Mo_isGuest fok_Mo cok_Mo (Nat.le_of_ble_eq_true rfl) (fun G hG => ?_)
  refine hG.1 [] 80 _ _ _ _ ?_
  refine ⟨by omega, by omega, ?_⟩
  refine hG.2.2.1 (c_Mo_in (a := g) (b := 0) (c := (n : Int) - 1) (by omega) (by omega) (by omega)) ys_Mo_in (Or.inl lk_Mo_55) (by decide +kernel) rfl [] (by decide +kernel) rfl rfl rfl (Nat.le_of_ble_eq_true rfl) (fun v w2 hv hl2 => ?_)
  obtain ⟨⟨hc, rfl⟩ | ⟨hc, rfl⟩, rfl⟩ := hv
  · change G _ _ _ (wMo w ks ss n la su nm np ns sz tp tn pl rs rd lp ik kp km kn ln rz it)
    refine hG.1 [] 80 _ _ _ _ ?_
    exact ⟨Or.inr rfl, Or.inl ⟨by omega, rfl⟩, rfl⟩
  · change G _ _ _ (wMo w ks ss n la su nm np ns sz tp tn pl rs rd lp ik kp km kn ln rz it)
    refine hG.1 [] 80 _ _ _ _ ?_
    exact ⟨Or.inl rfl, Or.inr ⟨by omega, rfl⟩, rfl⟩
theorem c_Mo_weight {x y : Int} (hx : -2147483648 ≤ x ∧ x ≤ 2147483647) (hy : -2147483648 ≤ y ∧ y ≤ 2147483647) :
    zMet m_Mo_weight [.inr (.inr 0), .inl x, .inl y] (wMo w ks ss n la su nm np ns sz tp tn pl rs rd lp ik kp km kn ln rz it) (fun v wd => (((0 ≤ x ∧ x < 21) ∧ (0 ≤ y ∧ y ≤ 99)) ∧ v = some (.inl (w x)) ∧ wd = wMo (z_u w x y) ks ss n la su nm np ns sz tp tn pl rs rd lp ik kp km kn ln rz it) ∨ (¬ ((0 ≤ x ∧ x < 21) ∧ (0 ≤ y ∧ y ≤ 99)) ∧ v = some (.inl (-1)) ∧ wd = wMo w ks ss n la su nm np ns sz tp tn pl rs rd lp ik kp km kn ln rz it)) := by
  refine zMet.of (own := RX7) rfl (by decide +kernel) tk_Mo_weight fok_Mo cok_Mo (Nat.le_of_ble_eq_true rfl) (fun G hG => ?_)
  refine hG.1 [] 80 _ _ _ _ ?_
  refine ⟨by omega, ?_⟩
  refine hG.2.2.1 (c_Mo_isSum (x := x) (by omega)) ys_Mo_isSum (Or.inl lk_Mo_63) (by decide +kernel) rfl [] (by decide +kernel) rfl rfl rfl (Nat.le_of_ble_eq_true rfl) (fun v w2 hv hl2 => ?_)
  obtain ⟨⟨hc, rfl⟩ | ⟨hc, rfl⟩, rfl⟩ := hv
  · change G _ _ _ (wMo w ks ss n la su nm np ns sz tp tn pl rs rd lp ik kp km kn ln rz it)
    refine hG.1 [] 80 _ _ _ _ ?_
    refine ⟨by omega, fun q => absurd q (by omega), fun q => ?_⟩
    refine ⟨by omega, ?_⟩
    refine hG.2.2.1 (c_Mo_in (a := y) (b := 0) (c := 99) (by omega) (by omega) (by omega)) ys_Mo_in (Or.inl lk_Mo_55) (by decide +kernel) rfl [] (by decide +kernel) rfl rfl rfl (Nat.le_of_ble_eq_true rfl) (fun v w2 hv hl2 => ?_)
    obtain ⟨⟨hd, rfl⟩ | ⟨hd, rfl⟩, rfl⟩ := hv
    · change G _ _ _ (wMo w ks ss n la su nm np ns sz tp tn pl rs rd lp ik kp km kn ln rz it)
      refine hG.1 [] 80 _ _ _ _ ?_
      refine ⟨by omega, fun q => ?_, fun q => absurd q (by omega)⟩
      exact ⟨by omega, by omega, trivial, Or.inl ⟨⟨hc, hd⟩, rfl, rfl⟩⟩
    · change G _ _ _ (wMo w ks ss n la su nm np ns sz tp tn pl rs rd lp ik kp km kn ln rz it)
      refine hG.1 [] 80 _ _ _ _ ?_
      refine ⟨by omega, fun q => absurd rfl q, fun q => ?_⟩
      exact ⟨trivial, Or.inr ⟨fun z => hd z.2, rfl, rfl⟩⟩
  · change G _ _ _ (wMo w ks ss n la su nm np ns sz tp tn pl rs rd lp ik kp km kn ln rz it)
    refine hG.1 [] 80 _ _ _ _ ?_
    refine ⟨by omega, fun q => ?_, fun q => absurd rfl q⟩
    exact ⟨trivial, Or.inr ⟨fun z => hc z.1, rfl, rfl⟩⟩
theorem c_Mo_add {x y : Int} (hn : n < 9) :
    zMet m_Mo_add [.inr (.inr 0), .inl x, .inl y] (wMo w ks ss n la su nm np ns sz tp tn pl rs rd lp ik kp km kn ln rz it) (fun v wd => v = none ∧ wd = wMo w (z_u ks n x) (z_u ss n y) (n + 1) la su nm np ns sz tp tn pl rs rd lp ik kp km kn ln rz it) := by
  refine zMet.of (own := RX7) rfl (by decide +kernel) tk_Mo_add fok_Mo cok_Mo (Nat.le_of_ble_eq_true rfl) (fun G hG => ?_)
  refine hG.1 [] 80 _ _ _ _ ?_
  exact ⟨by omega, by omega, trivial, rfl, rfl⟩
theorem c_Mo_guest {x : Int} (hx : -2147483648 ≤ x ∧ x ≤ 2147483647) (hn : n ≤ 9) :
    zMet m_Mo_guest [.inr (.inr 0), .inl x] (wMo w ks ss n la su nm np ns sz tp tn pl rs rd lp ik kp km kn ln rz it) (fun v wd => ((0 ≤ x ∧ x ≤ 3) ∧ n < 9 ∧ v = some (.inl (n : Int)) ∧ wd = wMo w (z_u ks n x) (z_u ss n 0) (n + 1) la su nm np ns sz tp tn pl rs rd lp ik kp km kn ln rz it) ∨ ((0 ≤ x ∧ x ≤ 3) ∧ ¬ n < 9 ∧ v = some (.inl (-3)) ∧ wd = wMo w ks ss n la su nm np ns sz tp tn pl rs rd lp ik kp km kn ln rz it) ∨ (¬ (0 ≤ x ∧ x ≤ 3) ∧ v = some (.inl (-1)) ∧ wd = wMo w ks ss n la su nm np ns sz tp tn pl rs rd lp ik kp km kn ln rz it)) := by
  refine zMet.of (own := RX7) rfl (by decide +kernel) tk_Mo_guest fok_Mo cok_Mo (Nat.le_of_ble_eq_true rfl) (fun G hG => ?_)
  refine hG.1 [] 80 _ _ _ _ ?_
  refine ⟨by omega, ?_⟩
  refine hG.2.2.1 (c_Mo_in (a := x) (b := 0) (c := 3) (by omega) (by omega) (by omega)) ys_Mo_in (Or.inl lk_Mo_55) (by decide +kernel) rfl [] (by decide +kernel) rfl rfl rfl (Nat.le_of_ble_eq_true rfl) (fun v w2 hv hl2 => ?_)
  obtain ⟨⟨hc, rfl⟩ | ⟨hc, rfl⟩, rfl⟩ := hv
  · change G _ _ _ (wMo w ks ss n la su nm np ns sz tp tn pl rs rd lp ik kp km kn ln rz it)
    refine hG.1 [] 80 _ _ _ _ ?_
    refine ⟨by omega, fun q => ?_, fun q => absurd q (by omega)⟩
    refine ⟨by omega, fun h2 => ?_, fun h2 => ?_⟩
    · refine hG.2.1 (c_Mo_add (x := x) (y := 0) (show n < 9 by omega)) yv_Mo_add lk_Mo_71 (by decide +kernel) rfl rfl [0, 1, 2, 3, 4, 5, 6, 7, 8, 9, 10, 11, 12, 13, 14] (by decide +kernel) rfl rfl rfl (Nat.le_of_ble_eq_true rfl) (fun v w2 hv hl2 => ?_)
      obtain ⟨rfl, rfl⟩ := hv
      change G _ _ _ (wMo w (z_u ks n x) (z_u ss n 0) (n + 1) la su nm np ns sz tp tn pl rs rd lp ik kp km kn ln rz it)
      refine hG.1 [] 80 _ _ _ _ ?_
      exact ⟨trivial, Or.inl ⟨hc, by omega, by congr 2; omega, rfl⟩⟩
    · exact ⟨trivial, Or.inr (Or.inl ⟨hc, by omega, rfl, rfl⟩)⟩
  · change G _ _ _ (wMo w ks ss n la su nm np ns sz tp tn pl rs rd lp ik kp km kn ln rz it)
    refine hG.1 [] 80 _ _ _ _ ?_
    refine ⟨by omega, fun q => absurd rfl q, fun q => ?_⟩
    exact ⟨trivial, Or.inr (Or.inr ⟨hc, rfl, rfl⟩)⟩
theorem c_Mo_slip {g x : Int} (hg : -2147483648 ≤ g ∧ g ≤ 2147483647) (hx : -2147483648 ≤ x ∧ x ≤ 2147483647) (hn : n ≤ 9) (hK : zOkK ks n) :
    zMet m_Mo_slip [.inr (.inr 0), .inl g, .inl x] (wMo w ks ss n la su nm np ns sz tp tn pl rs rd lp ik kp km kn ln rz it) (fun v wd => (((0 ≤ g ∧ g < n) ∧ (0 ≤ x ∧ x < 21)) ∧ (ks g = 2 ∧ x ≠ 0) ∧ v = some (.inl (-2)) ∧ wd = wMo w ks ss n la su nm np ns sz tp tn pl rs rd lp ik kp km kn ln rz it) ∨ (((0 ≤ g ∧ g < n) ∧ (0 ≤ x ∧ x < 21)) ∧ ¬ (ks g = 2 ∧ x ≠ 0) ∧ v = some (.inl (ss g)) ∧ wd = wMo w ks (z_u ss g x) n la su nm np ns sz tp tn pl rs rd lp ik kp km kn ln rz it) ∨ (¬ ((0 ≤ g ∧ g < n) ∧ (0 ≤ x ∧ x < 21)) ∧ v = some (.inl (-1)) ∧ wd = wMo w ks ss n la su nm np ns sz tp tn pl rs rd lp ik kp km kn ln rz it)) := by
  refine zMet.of (own := RX7) rfl (by decide +kernel) tk_Mo_slip fok_Mo cok_Mo (Nat.le_of_ble_eq_true rfl) (fun G hG => ?_)
  refine hG.1 [] 80 _ _ _ _ ?_
  refine hG.2.1 (c_Mo_isGuest (g := g) hg hn) yv_Mo_isGuest lk_Mo_75 (by decide +kernel) rfl rfl [0, 1, 2, 3, 4, 5, 6, 7, 8, 9, 10, 11, 12, 13, 14] (by decide +kernel) rfl rfl rfl (Nat.le_of_ble_eq_true rfl) (fun v w2 hv hl2 => ?_)
  obtain ⟨⟨hc, rfl⟩ | ⟨hc, rfl⟩, rfl⟩ := hv
  · change G _ _ _ (wMo w ks ss n la su nm np ns sz tp tn pl rs rd lp ik kp km kn ln rz it)
    refine hG.1 [] 80 _ _ _ _ ?_
    refine ⟨by omega, fun q => absurd q (by omega), fun q => ?_⟩
    refine ⟨by omega, ?_⟩
    refine hG.2.2.1 (c_Mo_isSum (x := x) (by omega)) ys_Mo_isSum (Or.inl lk_Mo_63) (by decide +kernel) rfl [] (by decide +kernel) rfl rfl rfl (Nat.le_of_ble_eq_true rfl) (fun v w2 hv hl2 => ?_)
    obtain ⟨⟨hd, rfl⟩ | ⟨hd, rfl⟩, rfl⟩ := hv
    · change G _ _ _ (wMo w ks ss n la su nm np ns sz tp tn pl rs rd lp ik kp km kn ln rz it)
      obtain ⟨k, rfl⟩ := z_nat hc.1
      have hkk := hK k (by omega)
      refine hG.1 [] 80 _ _ _ _ ?_
      refine ⟨by omega, fun q => ?_, fun q => absurd q (by omega)⟩
      refine ⟨by omega, by omega, fun h3 => ?_, fun h3 => ?_⟩
      · exact ⟨by omega, by omega, trivial, Or.inr (Or.inl ⟨⟨hc, hd⟩, fun z => h3 z.1, rfl, rfl⟩)⟩
      · refine ⟨by omega, fun h4 => ?_, fun h4 => ?_⟩
        · exact ⟨by omega, by omega, trivial, Or.inr (Or.inl ⟨⟨hc, hd⟩, fun z => z.2 h4, rfl, rfl⟩)⟩
        · exact ⟨trivial, Or.inl ⟨⟨hc, hd⟩, ⟨h3, h4⟩, rfl, rfl⟩⟩
    · change G _ _ _ (wMo w ks ss n la su nm np ns sz tp tn pl rs rd lp ik kp km kn ln rz it)
      refine hG.1 [] 80 _ _ _ _ ?_
      refine ⟨by omega, fun q => absurd rfl q, fun q => ?_⟩
      exact ⟨trivial, Or.inr (Or.inr ⟨fun z => hd z.2, rfl, rfl⟩)⟩
  · change G _ _ _ (wMo w ks ss n la su nm np ns sz tp tn pl rs rd lp ik kp km kn ln rz it)
    refine hG.1 [] 80 _ _ _ _ ?_
    refine ⟨by omega, fun q => ?_, fun q => absurd rfl q⟩
    exact ⟨trivial, Or.inr (Or.inr ⟨fun z => hc z.1, rfl, rfl⟩)⟩
theorem c_Mo_allWeights : zMet m_Mo_allWeights [.inr (.inr 0)] (wMo w ks ss n la su nm np ns sz tp tn pl rs rd lp ik kp km kn ln rz it) (fun v wd => v = some (.inl (zSumN w 21)) ∧ wd = wMo w ks ss n la su nm np ns sz tp tn pl rs rd lp ik kp km kn ln rz it) := by
  refine zMet.of (own := RX7) rfl (by decide +kernel) tk_Mo_allWeights fok_Mo cok_Mo (Nat.le_of_ble_eq_true rfl) (fun G hG => ?_)
  refine hG.1 [4] 80 _ _ _ _ ?_
  refine z_up0 (n := 21) (P := fun i : Nat => G 4 [(0, .inr (.inr 0)), (1, .inl (zSumN w i)), (2, .inl (i : Int))] [] (wMo w ks ss n la su nm np ns sz tp tn pl rs rd lp ik kp km kn ln rz it)) ?_ (fun i hi ih => ?_)
  · refine hG.1 [] 80 _ _ _ _ ?_
    refine ⟨by omega, fun h1 => ?_, fun h1 => absurd h1 (by omega)⟩
    exact ⟨trivial, rfl, rfl⟩
  · refine hG.1 [4] 80 _ _ _ _ ?_
    refine ⟨by omega, fun h1 => absurd h1 (by omega), fun h1 => ?_⟩
    exact ⟨by omega, ih⟩
theorem c_Mo_told {g x : Int} (hg : -2147483648 ≤ g ∧ g ≤ 2147483647) (hx : -2147483648 ≤ x ∧ x ≤ 2147483647) (hn : n ≤ 9) :
    zMet m_Mo_told [.inr (.inr 0), .inl g, .inl x] (wMo w ks ss n la su nm np ns sz tp tn pl rs rd lp ik kp km kn ln rz it) (fun v wd => v = some (.inl (if (0 ≤ g ∧ g < n) ∧ (0 ≤ x ∧ x ≤ 1) then (if x = 0 then ks g else ss g) else -1)) ∧ wd = wMo w ks ss n la su nm np ns sz tp tn pl rs rd lp ik kp km kn ln rz it) := by
  refine zMet.of (own := RX7) rfl (by decide +kernel) tk_Mo_told fok_Mo cok_Mo (Nat.le_of_ble_eq_true rfl) (fun G hG => ?_)
  refine hG.1 [] 80 _ _ _ _ ?_
  refine hG.2.1 (c_Mo_isGuest (g := g) hg hn) yv_Mo_isGuest lk_Mo_75 (by decide +kernel) rfl rfl [0, 1, 2, 3, 4, 5, 6, 7, 8, 9, 10, 11, 12, 13, 14] (by decide +kernel) rfl rfl rfl (Nat.le_of_ble_eq_true rfl) (fun v w2 hv hl2 => ?_)
  obtain ⟨⟨hc, rfl⟩ | ⟨hc, rfl⟩, rfl⟩ := hv
  · change G _ _ _ (wMo w ks ss n la su nm np ns sz tp tn pl rs rd lp ik kp km kn ln rz it)
    refine hG.1 [] 80 _ _ _ _ ?_
    refine ⟨by omega, fun q => absurd q (by omega), fun q => ?_⟩
    refine ⟨by omega, ?_⟩
    refine hG.2.2.1 (c_Mo_in (a := x) (b := 0) (c := 1) (by omega) (by omega) (by omega)) ys_Mo_in (Or.inl lk_Mo_55) (by decide +kernel) rfl [] (by decide +kernel) rfl rfl rfl (Nat.le_of_ble_eq_true rfl) (fun v w2 hv hl2 => ?_)
    obtain ⟨⟨hd, rfl⟩ | ⟨hd, rfl⟩, rfl⟩ := hv
    · change G _ _ _ (wMo w ks ss n la su nm np ns sz tp tn pl rs rd lp ik kp km kn ln rz it)
      refine hG.1 [] 80 _ _ _ _ ?_
      refine ⟨by omega, fun q => ?_, fun q => absurd q (by omega)⟩
      refine ⟨by omega, fun h4 => ?_, fun h4 => ?_⟩
      · exact ⟨by omega, trivial, by rw [if_pos ⟨hc, hd⟩, if_neg h4] <;> rfl, rfl⟩
      · exact ⟨by omega, trivial, by rw [if_pos ⟨hc, hd⟩, if_pos h4] <;> rfl, rfl⟩
    · change G _ _ _ (wMo w ks ss n la su nm np ns sz tp tn pl rs rd lp ik kp km kn ln rz it)
      refine hG.1 [] 80 _ _ _ _ ?_
      refine ⟨by omega, fun q => absurd rfl q, fun q => ?_⟩
      exact ⟨trivial, by rw [if_neg (fun z => hd z.2)], rfl⟩
  · change G _ _ _ (wMo w ks ss n la su nm np ns sz tp tn pl rs rd lp ik kp km kn ln rz it)
    refine hG.1 [] 80 _ _ _ _ ?_
    refine ⟨by omega, fun q => ?_, fun q => absurd rfl q⟩
    exact ⟨trivial, by rw [if_neg (fun z => hc z.1)], rfl⟩
theorem c_Mo_forget : zMet m_Mo_forget [.inr (.inr 0)] (wMo w ks ss n la su nm np ns sz tp tn pl rs rd lp ik kp km kn ln rz it) (fun v wd => v = some (.inl (sz : Int)) ∧ wd = wMo w ks ss n la su nm np ns (0) tp tn pl rs rd lp ik kp km kn ln rz it) := by
  refine zMet.of (own := RX7) rfl (by decide +kernel) tk_Mo_forget fok_Mo cok_Mo (Nat.le_of_ble_eq_true rfl) (fun G hG => ?_)
  refine hG.1 [] 80 _ _ _ _ ?_
  exact ⟨trivial, rfl, rfl⟩
end M1
