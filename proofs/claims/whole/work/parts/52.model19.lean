/-! THE REFERENCE: items, films, mixings -/
theorem zLk_in (ln rz : Int → Int) (x l f m : Int) : -13 ≤ zLk ln rz x l f m ∧ zLk ln rz x l f m ≤ 0 := by
  unfold zLk; repeat' split
  all_goals omega
theorem zLk_0 {ln rz : Int → Int} {x l f m : Int} (h : zLk ln rz x l f m = 0) : ln x = l ∧ 0 ≤ f ∧ f ≤ rz x - m := by
  unfold zLk at h
  split at h
  · split at h
    · omega
    · omega
  · split at h <;> omega
theorem zNar_eq {l x : Int} : (if l = 0 then (x * 2 ^ 48).bmod 18446744073709551616 / 2 ^ 48 else if l = 1 then (x * 2 ^ 32).bmod 18446744073709551616 / 2 ^ 32 else x) = zNar l x := by
  have a : (x * 2 ^ 48).bmod 18446744073709551616 / 2 ^ 48 = x.bmod 65536 := by
    rw [show (2 : Int) ^ 48 = 281474976710656 by decide, Int.bmod_def, Int.bmod_def]
    split <;> split <;> omega
  have b : (x * 2 ^ 32).bmod 18446744073709551616 / 2 ^ 32 = x.bmod 4294967296 := by
    rw [show (2 : Int) ^ 32 = 4294967296 by decide, Int.bmod_def, Int.bmod_def]
    split <;> split <;> omega
  unfold zNar
  rw [a, b]
def zFlm (it : Int → Int) (b : Int) (ss : Int → Int) : Nat → (Int → Int)
  | 0 => it
  | k + 1 => z_u (zFlm it b ss k) (b + k) (ss k)
section M19
variable {w ks ss : Int → Int} {n : Nat} {la su nm np ns : Int → Int} {sz : Nat} {tp : Int → Int} {tn pl : Nat} {rs : Int} {rd : Int → Int} {lp ik : Int} {kp : Int → Int} {km kn : Int} {ln rz it : Int → Int}
theorem c_Mo_item {x l y u : Int} (hx : -2147483648 ≤ x ∧ x ≤ 2147483647) (hl : -2147483648 ≤ l ∧ l ≤ 2147483647) (hy : -2147483648 ≤ y ∧ y ≤ 2147483647) (h1 : ∀ i : Nat, i < 4 → -1 ≤ ln i ∧ ln i ≤ 2) (h2 : ∀ i : Nat, i < 4 → 0 ≤ rz i ∧ rz i ≤ 24) :
    zMet m_Mo_item [.inr (.inr 0), .inl x, .inl l, .inl y, .inr (.inl u)] (wMo w ks ss n la su nm np ns sz tp tn pl rs rd lp ik kp km kn ln rz it) (fun v wd =>
      (((0 ≤ x ∧ x < 4) ∧ (0 ≤ l ∧ l ≤ 2)) ∧ zLk ln rz x l y 1 = 0 ∧ v = some (.inl 1) ∧ wd = wMo w ks ss n la su nm np ns sz tp tn pl rs rd lp ik kp km kn ln rz (z_u it (24 * x + y) (zNar l u))) ∨
      (((0 ≤ x ∧ x < 4) ∧ (0 ≤ l ∧ l ≤ 2)) ∧ zLk ln rz x l y 1 ≠ 0 ∧ v = some (.inl (zLk ln rz x l y 1)) ∧ wd = wMo w ks ss n la su nm np ns sz tp tn pl rs rd lp ik kp km kn ln rz it) ∨
      (¬ ((0 ≤ x ∧ x < 4) ∧ (0 ≤ l ∧ l ≤ 2)) ∧ v = some (.inl (-1)) ∧ wd = wMo w ks ss n la su nm np ns sz tp tn pl rs rd lp ik kp km kn ln rz it)) := by
  refine zMet.of (own := RX7) rfl (by decide +kernel) tk_Mo_item fok_Mo cok_Mo (Nat.le_of_ble_eq_true rfl) (fun G hG => ?_)
  refine hG.1 [] 80 _ _ _ _ ?_
  refine hG.2.2.1 (c_Mo_isSheet (x := x) (l := l) hx hl) ys_Mo_isSheet (Or.inl lk_Mo_222) (by decide +kernel) rfl [] (by decide +kernel) rfl rfl rfl (Nat.le_of_ble_eq_true rfl) (fun v w2 hv hl2 => ?_)
  obtain ⟨⟨hc, rfl⟩ | ⟨hc, rfl⟩, rfl⟩ := hv
  · change G _ _ _ (wMo w ks ss n la su nm np ns sz tp tn pl rs rd lp ik kp km kn ln rz it)
    obtain ⟨k, rfl⟩ := z_nat hc.1.1
    have hk1 := h1 k (by omega)
    have hk2 := h2 k (by omega)
    have hz := zLk_in ln rz k l y 1
    refine hG.1 [] 80 _ _ _ _ ?_
    refine ⟨by omega, fun q => ?_, fun q => absurd q (by omega)⟩
    refine hG.2.1 (c_Mo_lacksRow (x := k) (l := l) (f := y) (m := 1) (by omega) hl hy (by omega) hk1 hk2) yv_Mo_lacksRow lk_Mo_225 (by decide +kernel) rfl rfl [0, 1, 2, 3, 4, 5, 6, 7, 8, 9, 10, 11, 12, 13, 14] (by decide +kernel) rfl rfl rfl (Nat.le_of_ble_eq_true rfl) (fun v w2 hv hl2 => ?_)
    obtain ⟨rfl, rfl⟩ := hv
    change G _ _ _ (wMo w ks ss n la su nm np ns sz tp tn pl rs rd lp ik kp km kn ln rz it)
    refine hG.1 [] 80 _ _ _ _ ?_
    refine ⟨by omega, fun q => ?_, fun q => ?_⟩
    · have h0 : zLk ln rz k l y 1 = 0 := by omega
      have hz0 := zLk_0 h0
      refine hG.2.2.1 (c_Mo_asLane (l := l) (x := u) hc.2) ys_Mo_asLane (Or.inl lk_Mo_229) (by decide +kernel) rfl [] (by decide +kernel) rfl rfl rfl (Nat.le_of_ble_eq_true rfl) (fun v w2 hv hl2 => ?_)
      rw [zNar_eq] at hv
      obtain ⟨rfl, rfl⟩ := hv
      change G _ _ _ (wMo w ks ss n la su nm np ns sz tp tn pl rs rd lp ik kp km kn ln rz it)
      refine hG.1 [] 80 _ _ _ _ ?_
      exact ⟨by omega, trivial, Or.inl ⟨hc, h0, rfl, rfl⟩⟩
    · exact ⟨trivial, Or.inr (Or.inl ⟨hc, by omega, rfl, rfl⟩)⟩
  · change G _ _ _ (wMo w ks ss n la su nm np ns sz tp tn pl rs rd lp ik kp km kn ln rz it)
    refine hG.1 [] 80 _ _ _ _ ?_
    refine ⟨by omega, fun q => absurd rfl q, fun q => ?_⟩
    exact ⟨trivial, Or.inr (Or.inr ⟨hc, rfl, rfl⟩)⟩
theorem c_Mo_film {x l y : Int} (hx : -2147483648 ≤ x ∧ x ≤ 2147483647) (hl : -2147483648 ≤ l ∧ l ≤ 2147483647) (hy : -2147483648 ≤ y ∧ y ≤ 2147483647) (hn : n ≤ 9) (hS : zOkS ss n) (h1 : ∀ i : Nat, i < 4 → -1 ≤ ln i ∧ ln i ≤ 2) (h2 : ∀ i : Nat, i < 4 → 0 ≤ rz i ∧ rz i ≤ 24) :
    zMet m_Mo_film [.inr (.inr 0), .inl x, .inl l, .inl y] (wMo w ks ss n la su nm np ns sz tp tn pl rs rd lp ik kp km kn ln rz it) (fun v wd =>
      (((0 ≤ x ∧ x < 4) ∧ (0 ≤ l ∧ l ≤ 2)) ∧ zLk ln rz x l y n = 0 ∧ v = some (.inl (n : Int)) ∧ wd = wMo w ks ss n la su nm np ns sz tp tn pl rs rd lp ik kp km kn ln rz (zFlm it (24 * x + y) ss n)) ∨
      (((0 ≤ x ∧ x < 4) ∧ (0 ≤ l ∧ l ≤ 2)) ∧ zLk ln rz x l y n ≠ 0 ∧ v = some (.inl (zLk ln rz x l y n)) ∧ wd = wMo w ks ss n la su nm np ns sz tp tn pl rs rd lp ik kp km kn ln rz it) ∨
      (¬ ((0 ≤ x ∧ x < 4) ∧ (0 ≤ l ∧ l ≤ 2)) ∧ v = some (.inl (-1)) ∧ wd = wMo w ks ss n la su nm np ns sz tp tn pl rs rd lp ik kp km kn ln rz it)) := by
  refine zMet.of (own := RX7) rfl (by decide +kernel) tk_Mo_film fok_Mo cok_Mo (Nat.le_of_ble_eq_true rfl) (fun G hG => ?_)
  refine hG.1 [] 80 _ _ _ _ ?_
  refine hG.2.2.1 (c_Mo_isSheet (x := x) (l := l) hx hl) ys_Mo_isSheet (Or.inl lk_Mo_222) (by decide +kernel) rfl [] (by decide +kernel) rfl rfl rfl (Nat.le_of_ble_eq_true rfl) (fun v w2 hv hl2 => ?_)
  obtain ⟨⟨hc, rfl⟩ | ⟨hc, rfl⟩, rfl⟩ := hv
  · change G _ _ _ (wMo w ks ss n la su nm np ns sz tp tn pl rs rd lp ik kp km kn ln rz it)
    obtain ⟨k, rfl⟩ := z_nat hc.1.1
    have hk1 := h1 k (by omega)
    have hk2 := h2 k (by omega)
    have hz := zLk_in ln rz k l y n
    refine hG.1 [] 80 _ _ _ _ ?_
    refine ⟨by omega, fun q => ?_, fun q => absurd q (by omega)⟩
    refine hG.2.1 (c_Mo_lacksRow (x := k) (l := l) (f := y) (m := (n : Int)) (by omega) hl hy (by omega) hk1 hk2) yv_Mo_lacksRow lk_Mo_225 (by decide +kernel) rfl rfl [0, 1, 2, 3, 4, 5, 6, 7, 8, 9, 10, 11, 12, 13, 14] (by decide +kernel) rfl rfl rfl (Nat.le_of_ble_eq_true rfl) (fun v w2 hv hl2 => ?_)
    obtain ⟨rfl, rfl⟩ := hv
    change G _ _ _ (wMo w ks ss n la su nm np ns sz tp tn pl rs rd lp ik kp km kn ln rz it)
    refine hG.1 [34] 80 _ _ _ _ ?_
    refine ⟨by omega, fun q => ?_, fun q => ?_⟩
    · have h0 : zLk ln rz k l y n = 0 := by omega
      have hz0 := zLk_0 h0
      refine z_up0 (n := n) (P := fun i : Nat => G 34 [(0, .inr (.inr 0)), (1, .inl (k : Int)), (2, .inl l), (3, .inl y), (4, .inl (zLk ln rz k l y n)), (5, .inl (i : Int))] [] (wMo w ks ss n la su nm np ns sz tp tn pl rs rd lp ik kp km kn ln rz (zFlm it (24 * k + y) ss i))) ?_ (fun i hi ih => ?_)
      · refine hG.1 [] 80 _ _ _ _ ?_
        refine ⟨by omega, fun q1 => ?_, fun q1 => absurd q1 (by omega)⟩
        exact ⟨trivial, Or.inl ⟨hc, h0, rfl, rfl⟩⟩
      · have hsi := hS i hi
        refine hG.1 [34] 80 _ _ _ _ ?_
        refine ⟨by omega, fun q1 => absurd q1 (by omega), fun q1 => ?_⟩
        exact ⟨by omega, by omega, by omega, ih⟩
    · exact ⟨trivial, Or.inr (Or.inl ⟨hc, by omega, rfl, rfl⟩)⟩
  · change G _ _ _ (wMo w ks ss n la su nm np ns sz tp tn pl rs rd lp ik kp km kn ln rz it)
    refine hG.1 [] 80 _ _ _ _ ?_
    refine ⟨by omega, fun q => absurd rfl q, fun q => ?_⟩
    exact ⟨trivial, Or.inr (Or.inr ⟨hc, rfl, rfl⟩)⟩
theorem c_Mo_mixed {g x l y m part : Int} (hg : -2147483648 ≤ g ∧ g ≤ 2147483647) (hx : -2147483648 ≤ x ∧ x ≤ 2147483647) (hl : -2147483648 ≤ l ∧ l ≤ 2147483647) (hy : -2147483648 ≤ y ∧ y ≤ 2147483647) (hm : -2147483648 ≤ m ∧ m ≤ 2147483647) (hp : -2147483648 ≤ part ∧ part ≤ 2147483647) (hL : zOkL n (la 0) (la 1)) (hS : zOkS ss n) (hW : zOkW w) (h1 : ∀ i : Nat, i < 4 → -1 ≤ ln i ∧ ln i ≤ 2) (h2 : ∀ i : Nat, i < 4 → 0 ≤ rz i ∧ rz i ≤ 24) (hI : ∀ j : Int, -9223372036854775808 ≤ it j ∧ it j ≤ 9223372036854775807) :
    zMet m_Mo_mixed [.inr (.inr 0), .inl g, .inl x, .inl l, .inl y, .inl m, .inl part] (wMo w ks ss n la su nm np ns sz tp tn pl rs rd lp ik kp km kn ln rz it) (fun v wd =>
      ((((0 ≤ g ∧ g < n) ∧ (0 ≤ x ∧ x < 4) ∧ (0 ≤ l ∧ l ≤ 2) ∧ (1 ≤ m ∧ m ≤ 21) ∧ (part = 0 ∨ part = 1)) ∧
        ((zLk ln rz x l y m ≠ 0 ∧ v = some (.inr (.inl (zLk ln rz x l y m)))) ∨
         (zLk ln rz x l y m = 0 ∧ (¬ zAllW it (24 * x + y) m.toNat ∨ zWtS it (24 * x + y) m.toNat = 0 ∨ zSumN w 21 = 0) ∧ v = some (.inr (.inl (-2)))) ∨
         (zLk ln rz x l y m = 0 ∧ (zAllW it (24 * x + y) m.toNat ∧ zWtS it (24 * x + y) m.toNat ≠ 0 ∧ zSumN w 21 ≠ 0) ∧
           v = some (.inr (.inl (zLow (zMxN it (24 * x + y) (zFs w ss n (la 0) (la 1) g.toNat) m.toNat).toNat ((zWtS it (24 * x + y) m.toNat).toNat * (zSumN w 21).toNat * 2520) part)))))) ∨
       (¬ ((0 ≤ g ∧ g < n) ∧ (0 ≤ x ∧ x < 4) ∧ (0 ≤ l ∧ l ≤ 2) ∧ (1 ≤ m ∧ m ≤ 21) ∧ (part = 0 ∨ part = 1)) ∧ v = some (.inr (.inl (-1))))) ∧ wd = wMo w ks ss n la su nm np ns sz tp tn pl rs rd lp ik kp km kn ln rz it) := by
  have hn := hL.1
  have hsum := zSumN_in hW
  have hwei := zWei21 hW
  refine zMet.of (own := RX7) rfl (by decide +kernel) tk_Mo_mixed fok_Mo cok_Mo (Nat.le_of_ble_eq_true rfl) (fun G hG => ?_)
  refine hG.1 [] 80 _ _ _ _ ?_
  refine hG.2.1 (c_Mo_isGuest (g := g) hg hn) yv_Mo_isGuest lk_Mo_75 (by decide +kernel) rfl rfl [0, 1, 2, 3, 4, 5, 6, 7, 8, 9, 10, 11, 12, 13, 14] (by decide +kernel) rfl rfl rfl (Nat.le_of_ble_eq_true rfl) (fun v w2 hv hl2 => ?_)
  obtain ⟨⟨c1, rfl⟩ | ⟨c1, rfl⟩, rfl⟩ := hv
  · change G _ _ _ (wMo w ks ss n la su nm np ns sz tp tn pl rs rd lp ik kp km kn ln rz it)
    refine hG.1 [] 80 _ _ _ _ ?_
    refine ⟨by omega, fun q => absurd q (by omega), fun q => ?_⟩
    refine hG.2.2.1 (c_Mo_isSheet (x := x) (l := l) hx hl) ys_Mo_isSheet (Or.inl lk_Mo_222) (by decide +kernel) rfl [] (by decide +kernel) rfl rfl rfl (Nat.le_of_ble_eq_true rfl) (fun v w2 hv hl2 => ?_)
    obtain ⟨⟨c2, rfl⟩ | ⟨c2, rfl⟩, rfl⟩ := hv
    · change G _ _ _ (wMo w ks ss n la su nm np ns sz tp tn pl rs rd lp ik kp km kn ln rz it)
      refine hG.1 [] 80 _ _ _ _ ?_
      refine ⟨by omega, fun q => absurd q (by omega), fun q => ?_⟩
      refine ⟨by omega, ?_⟩
      refine hG.2.2.1 (c_Mo_in (a := m) (b := 1) (c := 21) (by omega) (by omega) (by omega)) ys_Mo_in (Or.inl lk_Mo_55) (by decide +kernel) rfl [] (by decide +kernel) rfl rfl rfl (Nat.le_of_ble_eq_true rfl) (fun v w2 hv hl2 => ?_)
      obtain ⟨⟨c3, rfl⟩ | ⟨c3, rfl⟩, rfl⟩ := hv
      · change G _ _ _ (wMo w ks ss n la su nm np ns sz tp tn pl rs rd lp ik kp km kn ln rz it)
        refine hG.1 [] 80 _ _ _ _ ?_
        refine ⟨by omega, fun q => absurd q (by omega), fun q => ?_⟩
        refine ⟨by omega, ?_⟩
        refine hG.2.2.1 (c_Mo_in (a := part) (b := 0) (c := 1) (by omega) (by omega) (by omega)) ys_Mo_in (Or.inl lk_Mo_55) (by decide +kernel) rfl [] (by decide +kernel) rfl rfl rfl (Nat.le_of_ble_eq_true rfl) (fun v w2 hv hl2 => ?_)
        obtain ⟨⟨c4, rfl⟩ | ⟨c4, rfl⟩, rfl⟩ := hv
        · change G _ _ _ (wMo w ks ss n la su nm np ns sz tp tn pl rs rd lp ik kp km kn ln rz it)
          have c5 : part = 0 ∨ part = 1 := by omega
          obtain ⟨gk, rfl⟩ := z_nat c1.1
          obtain ⟨k, rfl⟩ := z_nat c2.1.1
          obtain ⟨mk, rfl⟩ := z_nat (show 0 ≤ m by omega)
          have good : ((0 ≤ (gk : Int) ∧ (gk : Int) < n) ∧ (0 ≤ (k : Int) ∧ (k : Int) < 4) ∧ (0 ≤ l ∧ l ≤ 2) ∧ (1 ≤ (mk : Int) ∧ (mk : Int) ≤ 21) ∧ (part = 0 ∨ part = 1)) := ⟨c1, c2.1, c2.2, c3, c5⟩
          have hk1 := h1 k (by omega)
          have hk2 := h2 k (by omega)
          have hz := zLk_in ln rz k l y mk
          refine hG.1 [] 80 _ _ _ _ ?_
          refine ⟨by omega, fun q => ?_, fun q => absurd q (by omega)⟩
          refine hG.2.1 (c_Mo_lacksRow (x := k) (l := l) (f := y) (m := (mk : Int)) (by omega) hl hy (by omega) hk1 hk2) yv_Mo_lacksRow lk_Mo_225 (by decide +kernel) rfl rfl [0, 1, 2, 3, 4, 5, 6, 7, 8, 9, 10, 11, 12, 13, 14] (by decide +kernel) rfl rfl rfl (Nat.le_of_ble_eq_true rfl) (fun v w2 hv hl2 => ?_)
          obtain ⟨rfl, rfl⟩ := hv
          change G _ _ _ (wMo w ks ss n la su nm np ns sz tp tn pl rs rd lp ik kp km kn ln rz it)
          refine hG.1 [80] 80 _ _ _ _ ?_
          refine ⟨by omega, fun q => ?_, fun q => ?_⟩
          · have h0 : zLk ln rz k l y mk = 0 := by omega
            have hz0 := zLk_0 h0
            have bnd : ∀ i, i ≤ mk → zAllW it (24 * k + y) i → 0 ≤ zWtS it (24 * k + y) i ∧ zWtS it (24 * k + y) i ≤ 99 * (i : Int) := fun i _ h => zWtS_in h
            suffices L : ∀ i, i ≤ mk → (zAllW it (24 * k + y) i → G 80 [(0, .inr (.inr 0)), (1, .inl (gk : Int)), (2, .inl (k : Int)), (3, .inl l), (4, .inl y), (5, .inl (mk : Int)), (6, .inl part), (7, .inl (zLk ln rz k l y mk)), (8, .inl (24 * (k : Int) + y)), (9, .inr (.inl (zWtS it (24 * k + y) i))), (11, .inl (i : Int))] [] (wMo w ks ss n la su nm np ns sz tp tn pl rs rd lp ik kp km kn ln rz it)) from L 0 (Nat.zero_le _) (fun j hj => absurd hj (Nat.not_lt_zero _))
            refine z_up (fun hall => ?_) (fun i hi ih hall => ?_)
            · have hb := bnd mk (Nat.le_refl _) hall
              refine hG.1 [156] 80 _ _ _ _ ?_
              refine ⟨by omega, fun q1 => ?_, fun q1 => absurd q1 (by omega)⟩
              refine ⟨by omega, fun q2 => ?_, fun q2 => ?_⟩
              · refine ⟨trivial, Or.inl ⟨good, Or.inr (Or.inl ⟨h0, Or.inr (Or.inl ?_), rfl⟩)⟩, rfl⟩
                rw [Int.toNat_natCast]; exact q2
              · refine hG.2.1 (c_Mo_allWeights ) yv_Mo_allWeights lk_Mo_79 (by decide +kernel) rfl rfl [0, 1, 2, 3, 4, 5, 6, 7, 8, 9, 10, 11, 12, 13, 14] (by decide +kernel) rfl rfl rfl (Nat.le_of_ble_eq_true rfl) (fun v w2 hv hl2 => ?_)
                obtain ⟨rfl, rfl⟩ := hv
                change G _ _ _ (wMo w ks ss n la su nm np ns sz tp tn pl rs rd lp ik kp km kn ln rz it)
                refine hG.1 [156] 80 _ _ _ _ ?_
                refine ⟨by omega, fun q3 => ?_, fun q3 => ?_⟩
                · -- the mixing
                  have hfs : ∀ j, 0 ≤ zFs w ss n (la 0) (la 1) gk j ∧ zFs w ss n (la 0) (la 1) gk j ≤ 200000000 := fun j => by
                    have := zBu_in (w := w) (ss := z_u ss gk j) (n := n) (who := la 0) (ties := la 1) (g := gk) hW
                    unfold zFs; omega
                  refine z_up0 (n := mk) (P := fun i : Nat => G 156 [(0, .inr (.inr 0)), (1, .inl (gk : Int)), (2, .inl (k : Int)), (3, .inl l), (4, .inl y), (5, .inl (mk : Int)), (6, .inl part), (7, .inl (zLk ln rz k l y mk)), (8, .inl (24 * (k : Int) + y)), (9, .inr (.inl (zWtS it (24 * k + y) mk))), (11, .inr (.inl (zMxN it (24 * k + y) (zFs w ss n (la 0) (la 1) gk) i))), (13, .inl (i : Int))] [] (wMo w ks ss n la su nm np ns sz tp tn pl rs rd lp ik kp km kn ln rz it)) ?_ (fun i hi ih => ?_)
                  · have hmx := zMxN_in hfs hall
                    obtain ⟨tt, htt⟩ := z_nat hmx.1
                    obtain ⟨aa, haa⟩ := z_nat hb.1
                    obtain ⟨sw, hsw⟩ := z_nat hsum.1
                    rw [htt, haa]
                    refine hG.1 [] 80 _ _ _ _ ?_
                    refine ⟨by omega, fun q4 => ?_, fun q4 => absurd q4 (by omega)⟩
                    refine hG.2.1 (c_Mo_allWeights ) yv_Mo_allWeights lk_Mo_79 (by decide +kernel) rfl rfl [0, 1, 2, 3, 4, 5, 6, 7, 8, 9, 10, 11, 12, 13, 14] (by decide +kernel) rfl rfl rfl (Nat.le_of_ble_eq_true rfl) (fun v w2 hv hl2 => ?_)
                    obtain ⟨rfl, rfl⟩ := hv
                    change G _ _ _ (wMo w ks ss n la su nm np ns sz tp tn pl rs rd lp ik kp km kn ln rz it)
                    rw [hsw]
                    have hab : aa * sw ≤ 2079 * 2079 := Nat.mul_le_mul (by omega) (by omega)
                    have hap : 0 < aa * sw := Nat.mul_pos (by omega) (by omega)
                    have eb : 2520 * aa * sw = aa * sw * 2520 := by rw [Nat.mul_assoc, Nat.mul_comm]
                    refine hG.1 [] 80 _ _ _ _ ?_
                    refine ⟨by omega, ?_⟩
                    refine hG.2.2.1 (c_Mo_part (t := tt) (b := 2520 * aa * sw) (part := part) (by omega) (by omega) c5) ys_Mo_part (Or.inl lk_Mo_165) (by decide +kernel) rfl [] (by decide +kernel) rfl rfl rfl (Nat.le_of_ble_eq_true rfl) (fun v w2 hv hl2 => ?_)
                    obtain ⟨rfl, rfl⟩ := hv
                    change G _ _ _ (wMo w ks ss n la su nm np ns sz tp tn pl rs rd lp ik kp km kn ln rz it)
                    refine hG.1 [] 80 _ _ _ _ ?_
                    refine ⟨trivial, Or.inl ⟨good, Or.inr (Or.inr ⟨h0, ⟨?_, ?_, q3⟩, ?_⟩)⟩, rfl⟩
                    · rw [Int.toNat_natCast]; exact hall
                    · rw [Int.toNat_natCast]; exact q2
                    · rw [Int.toNat_natCast, Int.toNat_natCast, htt, haa, hsw, Int.toNat_natCast, Int.toNat_natCast, Int.toNat_natCast, eb]
                  · have hii := hall i hi
                    have e : zMxN it (24 * k + y) (zFs w ss n (la 0) (la 1) gk) (i + 1) = zMxN it (24 * k + y) (zFs w ss n (la 0) (la 1) gk) i + (if 0 < it (24 * k + y + i) then it (24 * k + y + i) * zFs w ss n (la 0) (la 1) gk i else 0) := rfl
                    have hfi := hfs i
                    rw [e] at ih
                    refine hG.1 [156] 80 _ _ _ _ ?_
                    refine ⟨by omega, fun q4 => absurd q4 (by omega), fun q4 => ?_⟩
                    refine ⟨by omega, by omega, fun q5 => ?_, fun q5 => ?_⟩
                    · refine ⟨by omega, ?_⟩
                      refine hG.2.1 (c_Mo_meanBy (g := gk) (x := i) (by omega) (by omega) hL hS hW) yv_Mo_meanBy lk_Mo_176 (by decide +kernel) rfl rfl [0, 1, 2, 3, 4, 5, 6, 7, 8, 9, 10, 11, 12, 13, 14] (by decide +kernel) rfl rfl rfl (Nat.le_of_ble_eq_true rfl) (fun v w2 hv hl2 => ?_)
                      obtain ⟨rfl, rfl⟩ := hv
                      change G _ _ _ (wMo w ks ss n la su nm np ns sz tp tn pl rs rd lp ik kp km kn ln rz it)
                      rw [if_pos (by omega)] at ih
                      refine hG.1 [156] 80 _ _ _ _ ?_
                      exact ⟨by omega, ih⟩
                    · rw [if_neg (by omega)] at ih
                      exact ih
                · exact ⟨trivial, Or.inl ⟨good, Or.inr (Or.inl ⟨h0, Or.inr (Or.inr q3), rfl⟩)⟩, rfl⟩
            · have hii := hI (24 * k + y + i)
              refine hG.1 [80] 80 _ _ _ _ ?_
              refine ⟨by omega, fun q1 => absurd q1 (by omega), fun q1 => ?_⟩
              refine ⟨by omega, ?_⟩
              refine hG.2.2.1 (c_Mo_in (a := it (24 * k + y + i)) (b := 0) (c := 99) hii (by omega) (by omega)) ys_Mo_in (Or.inl lk_Mo_55) (by decide +kernel) rfl [] (by decide +kernel) rfl rfl rfl (Nat.le_of_ble_eq_true rfl) (fun v w2 hv hl2 => ?_)
              obtain ⟨⟨hd, rfl⟩ | ⟨hd, rfl⟩, rfl⟩ := hv
              · change G _ _ _ (wMo w ks ss n la su nm np ns sz tp tn pl rs rd lp ik kp km kn ln rz it)
                refine hG.1 [80] 80 _ _ _ _ ?_
                refine ⟨by omega, fun q2 => ?_, fun q2 => absurd q2 (by omega)⟩
                refine ⟨by omega, ?_⟩
                exact ih (fun j hj => by
                  rcases Nat.lt_succ_iff_lt_or_eq.mp hj with h | rfl
                  · exact hall j h
                  · exact hd)
              · change G _ _ _ (wMo w ks ss n la su nm np ns sz tp tn pl rs rd lp ik kp km kn ln rz it)
                refine hG.1 [] 80 _ _ _ _ ?_
                refine ⟨by omega, fun q2 => absurd rfl q2, fun q2 => ?_⟩
                refine ⟨trivial, Or.inl ⟨good, Or.inr (Or.inl ⟨h0, Or.inl (fun z => ?_), rfl⟩)⟩, rfl⟩
                rw [Int.toNat_natCast] at z
                exact hd (z i hi)
          · refine ⟨by omega, ?_⟩
            exact ⟨trivial, Or.inl ⟨good, Or.inl ⟨by omega, rfl⟩⟩, rfl⟩
        · change G _ _ _ (wMo w ks ss n la su nm np ns sz tp tn pl rs rd lp ik kp km kn ln rz it)
          refine hG.1 [] 80 _ _ _ _ ?_
          refine ⟨by omega, fun q => absurd rfl q, fun q => ?_⟩
          exact ⟨trivial, Or.inr ⟨fun z => c4 (by have := z.2.2.2.2; omega), rfl⟩, rfl⟩
      · change G _ _ _ (wMo w ks ss n la su nm np ns sz tp tn pl rs rd lp ik kp km kn ln rz it)
        refine hG.1 [] 80 _ _ _ _ ?_
        refine ⟨by omega, fun q => ?_, fun q => absurd rfl q⟩
        exact ⟨trivial, Or.inr ⟨fun z => c3 z.2.2.2.1, rfl⟩, rfl⟩
    · change G _ _ _ (wMo w ks ss n la su nm np ns sz tp tn pl rs rd lp ik kp km kn ln rz it)
      refine hG.1 [] 80 _ _ _ _ ?_
      refine ⟨by omega, fun q => ?_, fun q => absurd rfl q⟩
      exact ⟨trivial, Or.inr ⟨fun z => c2 ⟨z.2.1, z.2.2.1⟩, rfl⟩, rfl⟩
  · change G _ _ _ (wMo w ks ss n la su nm np ns sz tp tn pl rs rd lp ik kp km kn ln rz it)
    refine hG.1 [] 80 _ _ _ _ ?_
    refine ⟨by omega, fun q => ?_, fun q => absurd rfl q⟩
    exact ⟨trivial, Or.inr ⟨fun z => c1 z.1, rfl⟩, rfl⟩
end M19
