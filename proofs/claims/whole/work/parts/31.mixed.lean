/-! FARTHESTPAYS: mixed -/
def zWtS (it : Int → Int) (fr : Int) : Nat → Int
  | 0 => 0
  | k + 1 => zWtS it fr k + it (fr + k)
theorem zWt_run {it : Int → Int} {fr : Int} : ∀ (d i : Nat) (acc : Int), (∀ k : Nat, i ≤ k → k < i + d → 0 ≤ it (fr + k) ∧ it (fr + k) ≤ 99) → zWtN it fr i d acc = acc + (zWtS it fr (i + d) - zWtS it fr i)
  | 0, i, acc, _ => by show acc = _; rw [Nat.add_zero]; omega
  | d + 1, i, acc, h => by
    have h1 := h i (Nat.le_refl i) (by omega)
    have h2 := zWt_run (it := it) (fr := fr) d (i + 1) (acc + it (fr + i)) (fun k h3 h4 => h k (by omega) (by omega))
    have h3 : zWtS it fr (i + 1) = zWtS it fr i + it (fr + i) := rfl
    unfold zWtN
    rw [if_neg (by omega), h2, show i + 1 + d = i + (d + 1) by omega, h3]
    omega
theorem zWt_bad {it : Int → Int} {fr : Int} : ∀ (d i : Nat) (acc : Int), (∃ k : Nat, i ≤ k ∧ k < i + d ∧ ¬ (0 ≤ it (fr + k) ∧ it (fr + k) ≤ 99)) → zWtN it fr i d acc = -1
  | 0, i, acc, ⟨k, h1, h2, _⟩ => by omega
  | d + 1, i, acc, ⟨k, h1, h2, h3⟩ => by
    unfold zWtN
    by_cases hb : it (fr + i) < 0 ∨ 99 < it (fr + i)
    · rw [if_pos hb]
    · rw [if_neg hb]
      refine zWt_bad d (i + 1) _ ⟨k, ?_, by omega, h3⟩
      rcases Nat.eq_or_lt_of_le h1 with rfl | h
      · exact absurd (by omega) h3
      · exact h
def zAllW (it : Int → Int) (fr : Int) (m : Nat) : Prop := ∀ k : Nat, k < m → 0 ≤ it (fr + k) ∧ it (fr + k) ≤ 99
theorem zWtS_in {it : Int → Int} {fr : Int} : ∀ {m : Nat}, zAllW it fr m → 0 ≤ zWtS it fr m ∧ zWtS it fr m ≤ 99 * (m : Int)
  | 0, _ => by show 0 ≤ (0 : Int) ∧ (0 : Int) ≤ _; omega
  | m + 1, h => by
    have h1 := zWtS_in (m := m) (fun k hk => h k (by omega))
    have h2 := h m (by omega)
    have h3 : zWtS it fr (m + 1) = zWtS it fr m + it (fr + m) := rfl
    omega
theorem zWt_eq {it : Int → Int} {fr : Int} {m : Nat} (h : zAllW it fr m) : zWtN it fr 0 m 0 = zWtS it fr m := by
  rw [zWt_run m 0 0 (fun k _ h2 => h k (by omega)), Nat.zero_add]
  show 0 + (_ - 0) = _
  omega
theorem zWt_neg {it : Int → Int} {fr : Int} {m : Nat} (h : ¬ zAllW it fr m) : zWtN it fr 0 m 0 = -1 := by
  refine zWt_bad m 0 0 (Classical.byContradiction fun z => h (fun k hk => Classical.byContradiction fun q => z ⟨k, Nat.zero_le k, by omega, q⟩))
noncomputable def zMxN (it : Int → Int) (fr : Int) (f : Nat → Int) : Nat → Int
  | 0 => 0
  | k + 1 => zMxN it fr f k + (if 0 < it (fr + k) then it (fr + k) * f k else 0)
theorem zMxN_in {it : Int → Int} {fr : Int} {f : Nat → Int} (hf : ∀ k, 0 ≤ f k ∧ f k ≤ 200000000) : ∀ {m : Nat}, zAllW it fr m → 0 ≤ zMxN it fr f m ∧ zMxN it fr f m ≤ 19800000000 * (m : Int)
  | 0, _ => by show 0 ≤ (0 : Int) ∧ (0 : Int) ≤ _; omega
  | m + 1, h => by
    have h1 := zMxN_in hf (m := m) (fun k hk => h k (by omega))
    have h2 := h m (by omega)
    have h3 : zMxN it fr f (m + 1) = zMxN it fr f m + (if 0 < it (fr + m) then it (fr + m) * f m else 0) := rfl
    have h4 := hf m
    have h5 : 0 ≤ it (fr + m) * f m := Int.mul_nonneg h2.1 h4.1
    have h6 : it (fr + m) * f m ≤ 99 * 200000000 := Int.mul_le_mul h2.2 h4.2 h4.1 (by omega)
    rw [h3]
    split <;> omega
section Fy
variable {img : Int} {w ks ss : Int → Int} {n : Nat} {who ties : Int} {su : Int → Int} {cs : Nat → zCD} {sz : Nat} {w' ks' ss' : Int → Int} {n' : Nat} {who' ties' : Int} {su' : Int → Int} {cs' : Nat → zCD} {sz' : Nat} {b : Int → Int} {tn tp : Nat} {fl : Int} {rs : Int → Int} {rc : zCD} {sh : Nat → zSD}
theorem c_Fp_mixed {g x l y m part : Int} (hg : -2147483648 ≤ g ∧ g ≤ 2147483647) (hx : -2147483648 ≤ x ∧ x ≤ 2147483647) (hl : -2147483648 ≤ l ∧ l ≤ 2147483647) (hy : -2147483648 ≤ y ∧ y ≤ 2147483647) (hm : -2147483648 ≤ m ∧ m ≤ 2147483647) (hp : -2147483648 ≤ part ∧ part ≤ 2147483647)
    (hL : zOkL n who ties) (hS : zOkS ss n) (hW : zOkW w) (hH : ∀ i : Nat, i < 4 → zOkH (sh i)) :
    zMet m_Fp_mixed [.inr (.inr 0), .inl g, .inl x, .inl l, .inl y, .inl m, .inl part] (wFp img w ks ss n who ties su cs sz (zKs w' ks' ss' n' who' ties' su' cs' sz' (zTs b tn tp fl rs rc sh))) (fun v wd =>
      ((((0 ≤ g ∧ g < n) ∧ (0 ≤ x ∧ x < 4) ∧ (0 ≤ l ∧ l ≤ 2) ∧ (1 ≤ m ∧ m ≤ 21) ∧ (part = 0 ∨ part = 1)) ∧
        ((zRef (sh x.toNat).2.1 (sh x.toNat).2.2 l y m ≠ 0 ∧ v = some (.inr (.inl (zRef (sh x.toNat).2.1 (sh x.toNat).2.2 l y m)))) ∨
         (zRef (sh x.toNat).2.1 (sh x.toNat).2.2 l y m = 0 ∧ (¬ zAllW (sh x.toNat).1 y m.toNat ∨ zWtS (sh x.toNat).1 y m.toNat = 0 ∨ zSumN w 21 = 0) ∧ v = some (.inr (.inl (-2)))) ∨
         (zRef (sh x.toNat).2.1 (sh x.toNat).2.2 l y m = 0 ∧ (zAllW (sh x.toNat).1 y m.toNat ∧ zWtS (sh x.toNat).1 y m.toNat ≠ 0 ∧ zSumN w 21 ≠ 0) ∧
           v = some (.inr (.inl (zLow (zMxN (sh x.toNat).1 y (zFs w ss n who ties g.toNat) m.toNat).toNat ((zWtS (sh x.toNat).1 y m.toNat).toNat * (zSumN w 21).toNat * 2520) part)))))) ∨
       (¬ ((0 ≤ g ∧ g < n) ∧ (0 ≤ x ∧ x < 4) ∧ (0 ≤ l ∧ l ≤ 2) ∧ (1 ≤ m ∧ m ≤ 21) ∧ (part = 0 ∨ part = 1)) ∧ v = some (.inr (.inl (-1))))) ∧ wd = wFp img w ks ss n who ties su cs sz (zKs w' ks' ss' n' who' ties' su' cs' sz' (zTs b tn tp fl rs rc sh))) := by
  have hn := hL.1
  have hsum := zSumN_in hW
  have hwei := zWei21 hW
  refine zMet.of (own := RX6) rfl (by decide +kernel) tk_Fp_mixed fok_Fp cok_Fp (Nat.le_of_ble_eq_true rfl) (fun G hG => ?_)
  refine hG.1 [] 80 _ _ _ _ ?_
  refine hG.2.1 (c_Co_has hg hn) yv_Co_has lk_Fp_76 (by decide +kernel) rfl rfl [4, 5, 6] (by decide +kernel) rfl rfl rfl (Nat.le_of_ble_eq_true rfl) (fun v w2 hv hl2 => ?_)
  obtain ⟨⟨h1, rfl⟩ | ⟨h1, rfl⟩, rfl⟩ := hv
  · change G _ _ _ (wFp img w ks ss n who ties su cs sz (zKs w' ks' ss' n' who' ties' su' cs' sz' (zTs b tn tp fl rs rc sh)))
    refine hG.1 [] 80 _ _ _ _ ?_
    refine ⟨by omega, fun q => absurd q (by omega), fun q => ?_⟩
    refine hG.2.2.1 (c_Fp_isSheet hx) ys_Fp_isSheet (Or.inl lk_Fp_221) (by decide +kernel) rfl [] (by decide +kernel) rfl rfl rfl (Nat.le_of_ble_eq_true rfl) (fun v w2 hv hl2 => ?_)
    obtain ⟨⟨h2, rfl⟩ | ⟨h2, rfl⟩, rfl⟩ := hv
    · change G _ _ _ (wFp img w ks ss n who ties su cs sz (zKs w' ks' ss' n' who' ties' su' cs' sz' (zTs b tn tp fl rs rc sh)))
      refine hG.1 [] 80 _ _ _ _ ?_
      refine ⟨by omega, fun q => absurd q (by omega), fun q => ?_⟩
      refine hG.2.2.1 (c_Fp_isLane hl) ys_Fp_isLane (Or.inl lk_Fp_224) (by decide +kernel) rfl [] (by decide +kernel) rfl rfl rfl (Nat.le_of_ble_eq_true rfl) (fun v w2 hv hl2 => ?_)
      obtain ⟨⟨h3, rfl⟩ | ⟨h3, rfl⟩, rfl⟩ := hv
      · change G _ _ _ (wFp img w ks ss n who ties su cs sz (zKs w' ks' ss' n' who' ties' su' cs' sz' (zTs b tn tp fl rs rc sh)))
        refine hG.1 [] 80 _ _ _ _ ?_
        refine ⟨by omega, fun q => absurd q (by omega), fun q => ?_⟩
        refine ⟨by omega, fun q1 => ?_, fun q1 => ?_⟩
        · exact ⟨trivial, Or.inr ⟨fun z => by have := z.2.2.2.1; omega, rfl⟩, rfl⟩
        · refine ⟨by omega, fun q2 => ?_, fun q2 => ?_⟩
          · exact ⟨trivial, Or.inr ⟨fun z => by have := z.2.2.2.1; omega, rfl⟩, rfl⟩
          · refine hG.2.2.1 (c_Fp_isPart hp) ys_Fp_isPart (Or.inl lk_Fp_152) (by decide +kernel) rfl [] (by decide +kernel) rfl rfl rfl (Nat.le_of_ble_eq_true rfl) (fun v w2 hv hl2 => ?_)
            obtain ⟨⟨h5, rfl⟩ | ⟨h5, rfl⟩, rfl⟩ := hv
            · change G _ _ _ (wFp img w ks ss n who ties su cs sz (zKs w' ks' ss' n' who' ties' su' cs' sz' (zTs b tn tp fl rs rc sh)))
              have hall : (0 ≤ g ∧ g < n) ∧ (0 ≤ x ∧ x < 4) ∧ (0 ≤ l ∧ l ≤ 2) ∧ (1 ≤ m ∧ m ≤ 21) ∧ (part = 0 ∨ part = 1) := ⟨h1, h2, h3, ⟨by omega, by omega⟩, h5⟩
              obtain ⟨i, rfl⟩ := z_nat h2.1
              obtain ⟨k, rfl⟩ := z_nat h1.1
              obtain ⟨c, rfl⟩ := z_nat (show 0 ≤ m by omega)
              have hi := hH i (by omega)
              have hrin := zRef_in (sh i).2.1 (sh i).2.2 l y c
              refine hG.1 [] 80 _ _ _ _ ?_
              refine ⟨by omega, fun q => ?_, fun q => absurd q (by omega)⟩
              refine ⟨by omega, ?_⟩
              refine hG.2.1 (c_Sh_refusal (it := (sh i).1) (lane := (sh i).2.1) (size := (sh i).2.2) (a := l) (f := y) (n := c) hi.2.1 hi.1 hl hy (by omega)) yv_Sh_refusal lk_Fp_227 (by decide +kernel) rfl rfl [99 + 2 * i, 99 + 2 * i + 1] (z_nd2 i) (sh_pick i (by omega)) rfl rfl (Nat.le_of_ble_eq_true rfl) (fun v w2 hv hl2 => ?_)
              obtain ⟨rfl, rfl⟩ := hv
              rw [sh_back i (by omega)]
              refine hG.1 [] 80 _ _ _ _ ?_
              refine ⟨by omega, fun q3 => ?_, fun q3 => ?_⟩
              · have h4 := zRef_0 q3
                refine hG.2.1 (c_Sh_weightsTogether (it := (sh i).1) (lane := (sh i).2.1) (size := (sh i).2.2) (f := y) (n := c) hi.2.1.2 (by omega) hi.2.2) yv_Sh_weightsTogether lk_Fp_230 (by decide +kernel) rfl rfl [99 + 2 * i, 99 + 2 * i + 1] (z_nd2 i) (sh_pick i (by omega)) rfl rfl (Nat.le_of_ble_eq_true rfl) (fun v w2 hv hl2 => ?_)
                obtain ⟨rfl, rfl⟩ := hv
                rw [sh_back i (by omega)]
                have hwt : zAllW (sh i).1 y c → 0 ≤ zWtS (sh i).1 y c ∧ zWtS (sh i).1 y c ≤ 99 * (c : Int) := zWtS_in
                by_cases haw : zAllW (sh i).1 y c
                · rw [zWt_eq haw]
                  have hws := hwt haw
                  refine hG.1 [] 80 _ _ _ _ ?_
                  refine hG.2.1 (c_Su_together (w := w)) yv_Su_together lk_Fp_88 (by decide +kernel) rfl rfl [2, 3] (by decide +kernel) rfl rfl rfl (Nat.le_of_ble_eq_true rfl) (fun v w2 hv hl2 => ?_)
                  obtain ⟨rfl, rfl⟩ := hv
                  change G _ _ _ (wFp img w ks ss n who ties su cs sz (zKs w' ks' ss' n' who' ties' su' cs' sz' (zTs b tn tp fl rs rc sh)))
                  refine hG.1 [127] 80 _ _ _ _ ?_
                  refine ⟨by omega, fun q4 => ?_, fun q4 => ?_⟩
                  · exact ⟨trivial, Or.inl ⟨hall, Or.inr (Or.inl ⟨q3, Or.inr (Or.inl (by rw [Int.toNat_natCast, Int.toNat_natCast]; omega)), rfl⟩)⟩, rfl⟩
                  · refine ⟨by omega, fun q5 => ?_, fun q5 => ?_⟩
                    · have hf : ∀ k1, 0 ≤ zFs w ss n who ties k k1 ∧ zFs w ss n who ties k k1 ≤ 200000000 := fun k1 => by
                        have := zBu_in (w := w) (ss := z_u ss k k1) (n := n) (who := who) (ties := ties) (g := k) hW
                        unfold zFs; omega
                      refine z_up0 (n := c) (P := fun j : Nat => G 127 [(0, .inr (.inr 0)), (1, .inl (k : Int)), (2, .inl (i : Int)), (3, .inl l), (4, .inl y), (5, .inl (c : Int)), (6, .inl part), (7, .inr (.inr (99 + 2 * i))), (8, .inl (zRef (sh i).2.1 (sh i).2.2 l y c)), (9, .inr (.inl (zWtS (sh i).1 y c))), (11, .inl (zSumN w 21)), (12, .inr (.inl (zMxN (sh i).1 y (zFs w ss n who ties k) j))), (14, .inl (j : Int))] [] (wFp img w ks ss n who ties su cs sz (zKs w' ks' ss' n' who' ties' su' cs' sz' (zTs b tn tp fl rs rc sh)))) ?_ (fun j hj ih => ?_)
                      · have hmx := zMxN_in hf haw
                        obtain ⟨tt, htt⟩ := z_nat hmx.1
                        obtain ⟨ww, hww⟩ := z_nat hws.1
                        obtain ⟨aa, haa⟩ := z_nat hsum.1
                        have e60 : (2 : Nat) ^ 60 = 1152921504606846976 := by decide
                        have hww1 : 0 < ww := by omega
                        have haa1 : 0 < aa := by omega
                        have hpos : 0 < ww * aa * 2520 := Nat.mul_pos (Nat.mul_pos hww1 haa1) (by omega)
                        have hle : ww * aa ≤ 2079 * 2079 := Nat.mul_le_mul (by omega) (by omega)
                        rw [htt, hww, haa]
                        refine hG.1 [] 80 _ _ _ _ ?_
                        refine ⟨by omega, fun q6 => ?_, fun q6 => absurd q6 (by omega)⟩
                        refine ⟨by omega, ?_⟩
                        refine hG.2.2.1 (c_Fp_lowest (t := tt) (b := ww * aa * 2520) (part := part) (by omega) (by omega) h5) ys_Fp_lowest (Or.inl lk_Fp_160) (by decide +kernel) rfl [] (by decide +kernel) rfl rfl rfl (Nat.le_of_ble_eq_true rfl) (fun v w2 hv hl2 => ?_)
                        obtain ⟨rfl, rfl⟩ := hv
                        change G _ _ _ (wFp img w ks ss n who ties su cs sz (zKs w' ks' ss' n' who' ties' su' cs' sz' (zTs b tn tp fl rs rc sh)))
                        refine hG.1 [] 80 _ _ _ _ ?_
                        refine ⟨trivial, Or.inl ⟨hall, Or.inr (Or.inr ⟨q3, ⟨haw, by rw [Int.toNat_natCast, Int.toNat_natCast]; omega, q5⟩, ?_⟩)⟩, rfl⟩
                        rw [Int.toNat_natCast, Int.toNat_natCast, Int.toNat_natCast, htt, hww, haa, Int.toNat_natCast, Int.toNat_natCast, Int.toNat_natCast] <;> rfl
                      · have e : zMxN (sh i).1 y (zFs w ss n who ties k) (j + 1) = zMxN (sh i).1 y (zFs w ss n who ties k) j + (if 0 < (sh i).1 (y + j) then (sh i).1 (y + j) * zFs w ss n who ties k j else 0) := rfl
                        have haj := haw j hj
                        refine hG.1 [127] 80 _ _ _ _ ?_
                        refine ⟨by omega, fun q6 => absurd q6 (by omega), fun q6 => ?_⟩
                        refine hG.2.1 (c_Sh_itemAt (it := (sh i).1) (lane := (sh i).2.1) (size := (sh i).2.2) (i := y + j) hi.2.1.2 (by omega)) yv_Sh_itemAt lk_Fp_234 (by decide +kernel) rfl rfl [99 + 2 * i, 99 + 2 * i + 1] (z_nd2 i) (sh_pick i (by omega)) rfl rfl (Nat.le_of_ble_eq_true rfl) (fun v w2 hv hl2 => ?_)
                        obtain ⟨rfl, rfl⟩ := hv
                        rw [sh_back i (by omega)]
                        refine hG.1 [127] 80 _ _ _ _ ?_
                        refine ⟨by omega, fun q7 => ?_, fun q7 => ?_⟩
                        · rw [e, if_neg (by omega), Int.add_zero] at ih
                          exact hG.2.2.2.2.1 (fun q hq => List.mem_append_left _ hq) ih
                        · refine hG.2.1 (c_Ta_burdenBy (w := w) (ks := ks) (ss := ss) (n := n) (who := who) (ties := ties) (g := k) (x := j) (by omega) (by omega) hL hS hW) yv_Ta_burdenBy lk_Fp_237 (by decide +kernel) rfl rfl [1, 2, 3, 4, 5, 6] (by decide +kernel) rfl rfl rfl (Nat.le_of_ble_eq_true rfl) (fun v w2 hv hl2 => ?_)
                          obtain ⟨rfl, rfl⟩ := hv
                          change G _ _ _ (wFp img w ks ss n who ties su cs sz (zKs w' ks' ss' n' who' ties' su' cs' sz' (zTs b tn tp fl rs rc sh)))
                          rw [e, if_pos q7] at ih
                          refine hG.1 [127] 80 _ _ _ _ ?_
                          exact hG.2.2.2.2.1 (fun q hq => List.mem_append_left _ hq) ih
                    · exact ⟨trivial, Or.inl ⟨hall, Or.inr (Or.inl ⟨q3, Or.inr (Or.inr q5), rfl⟩)⟩, rfl⟩
                · rw [zWt_neg haw]
                  refine hG.1 [] 80 _ _ _ _ ?_
                  refine hG.2.1 (c_Su_together (w := w)) yv_Su_together lk_Fp_88 (by decide +kernel) rfl rfl [2, 3] (by decide +kernel) rfl rfl rfl (Nat.le_of_ble_eq_true rfl) (fun v w2 hv hl2 => ?_)
                  obtain ⟨rfl, rfl⟩ := hv
                  change G _ _ _ (wFp img w ks ss n who ties su cs sz (zKs w' ks' ss' n' who' ties' su' cs' sz' (zTs b tn tp fl rs rc sh)))
                  refine hG.1 [127] 80 _ _ _ _ ?_
                  refine ⟨by omega, fun q4 => ?_, fun q4 => absurd q4 (by omega)⟩
                  exact ⟨trivial, Or.inl ⟨hall, Or.inr (Or.inl ⟨q3, Or.inl haw, rfl⟩)⟩, rfl⟩
              · exact ⟨by omega, trivial, Or.inl ⟨hall, Or.inl ⟨q3, rfl⟩⟩, rfl⟩
            · change G _ _ _ (wFp img w ks ss n who ties su cs sz (zKs w' ks' ss' n' who' ties' su' cs' sz' (zTs b tn tp fl rs rc sh)))
              refine hG.1 [] 80 _ _ _ _ ?_
              refine ⟨by omega, fun q => absurd rfl q, fun q => ?_⟩
              exact ⟨trivial, Or.inr ⟨fun z => h5 z.2.2.2.2, rfl⟩, rfl⟩
      · change G _ _ _ (wFp img w ks ss n who ties su cs sz (zKs w' ks' ss' n' who' ties' su' cs' sz' (zTs b tn tp fl rs rc sh)))
        refine hG.1 [] 80 _ _ _ _ ?_
        refine ⟨by omega, fun q => ?_, fun q => absurd rfl q⟩
        exact ⟨trivial, Or.inr ⟨fun z => h3 z.2.2.1, rfl⟩, rfl⟩
    · change G _ _ _ (wFp img w ks ss n who ties su cs sz (zKs w' ks' ss' n' who' ties' su' cs' sz' (zTs b tn tp fl rs rc sh)))
      refine hG.1 [] 80 _ _ _ _ ?_
      refine ⟨by omega, fun q => ?_, fun q => absurd rfl q⟩
      exact ⟨trivial, Or.inr ⟨fun z => h2 z.2.1, rfl⟩, rfl⟩
  · change G _ _ _ (wFp img w ks ss n who ties su cs sz (zKs w' ks' ss' n' who' ties' su' cs' sz' (zTs b tn tp fl rs rc sh)))
    refine hG.1 [] 80 _ _ _ _ ?_
    refine ⟨by omega, fun q => ?_, fun q => absurd rfl q⟩
    exact ⟨trivial, Or.inr ⟨fun z => h1 z.1, rfl⟩, rfl⟩
end Fy
