/-! THE REFERENCE: laws, counts, writing, distances, the middle -/
noncomputable def zMid (ss : Int → Int) (n : Nat) : Nat → Int
  | 0 => 0
  | k + 1 => if (zPlaceN ss k n : Int) = ((n : Int) - 1) / 2 then (k : Int) else zMid ss n k
theorem zMid_in {ss : Int → Int} {n : Nat} : ∀ k, 0 ≤ zMid ss n k ∧ zMid ss n k ≤ (k : Int)
  | 0 => by show (0 : Int) ≤ 0 ∧ (0 : Int) ≤ 0; omega
  | k + 1 => by
    have h := zMid_in (ss := ss) (n := n) k
    unfold zMid; split <;> omega
section M2
variable {w ks ss : Int → Int} {n : Nat} {la su nm np ns : Int → Int} {sz : Nat} {tp : Int → Int} {tn pl : Nat} {rs : Int} {rd : Int → Int} {lp ik : Int} {kp : Int → Int} {km kn : Int} {ln rz it : Int → Int}
theorem c_Mo_rule {g x : Int} (hg : -2147483648 ≤ g ∧ g ≤ 2147483647) (hx : -2147483648 ≤ x ∧ x ≤ 2147483647) :
    zMet m_Mo_rule [.inr (.inr 0), .inl g, .inl x] (wMo w ks ss n la su nm np ns sz tp tn pl rs rd lp ik kp km kn ln rz it) (fun v wd => ((g = 0 ∧ 0 ≤ x ∧ x ≤ 3) ∧ v = some (.inl (la 0)) ∧ wd = wMo w ks ss n (z_u la 0 x) su nm np ns sz tp tn pl rs rd lp ik kp km kn ln rz it) ∨ ((g = 1 ∧ 0 ≤ x ∧ x ≤ 2) ∧ v = some (.inl (la 1)) ∧ wd = wMo w ks ss n (z_u la 1 x) su nm np ns sz tp tn pl rs rd lp ik kp km kn ln rz it) ∨ (¬ (g = 0 ∧ 0 ≤ x ∧ x ≤ 3) ∧ ¬ (g = 1 ∧ 0 ≤ x ∧ x ≤ 2) ∧ v = some (.inl (-1)) ∧ wd = wMo w ks ss n la su nm np ns sz tp tn pl rs rd lp ik kp km kn ln rz it)) := by
  refine zMet.of (own := RX7) rfl (by decide +kernel) tk_Mo_rule fok_Mo cok_Mo (Nat.le_of_ble_eq_true rfl) (fun G hG => ?_)
  refine hG.1 [] 80 _ _ _ _ ?_
  refine ⟨by omega, ?_⟩
  refine hG.2.2.1 (c_Mo_in (a := g) (b := 0) (c := 1) (by omega) (by omega) (by omega)) ys_Mo_in (Or.inl lk_Mo_55) (by decide +kernel) rfl [] (by decide +kernel) rfl rfl rfl (Nat.le_of_ble_eq_true rfl) (fun v w2 hv hl2 => ?_)
  obtain ⟨⟨hc, rfl⟩ | ⟨hc, rfl⟩, rfl⟩ := hv
  · change G _ _ _ (wMo w ks ss n la su nm np ns sz tp tn pl rs rd lp ik kp km kn ln rz it)
    refine hG.1 [] 80 _ _ _ _ ?_
    refine ⟨by omega, fun q => absurd q (by omega), fun q => ?_⟩
    refine ⟨by omega, by omega, fun h1 => ?_, fun h1 => ?_⟩
    · have hg1 : g = 1 := by omega
      subst hg1
      refine hG.2.2.1 (c_Mo_in (a := x) (b := 0) (c := 2) (by omega) (by omega) (by omega)) ys_Mo_in (Or.inl lk_Mo_55) (by decide +kernel) rfl [] (by decide +kernel) rfl rfl rfl (Nat.le_of_ble_eq_true rfl) (fun v w2 hv hl2 => ?_)
      obtain ⟨⟨hd, rfl⟩ | ⟨hd, rfl⟩, rfl⟩ := hv
      · change G _ _ _ (wMo w ks ss n la su nm np ns sz tp tn pl rs rd lp ik kp km kn ln rz it)
        refine hG.1 [] 80 _ _ _ _ ?_
        refine ⟨by omega, fun q => ?_, fun q => absurd q (by omega)⟩
        exact ⟨by omega, by omega, trivial, Or.inr (Or.inl ⟨⟨rfl, hd⟩, rfl, rfl⟩)⟩
      · change G _ _ _ (wMo w ks ss n la su nm np ns sz tp tn pl rs rd lp ik kp km kn ln rz it)
        refine hG.1 [] 80 _ _ _ _ ?_
        refine ⟨by omega, fun q => absurd rfl q, fun q => ?_⟩
        exact ⟨trivial, Or.inr (Or.inr ⟨by omega, fun z => hd z.2, rfl, rfl⟩)⟩
    · subst h1
      refine hG.2.2.1 (c_Mo_in (a := x) (b := 0) (c := 3) (by omega) (by omega) (by omega)) ys_Mo_in (Or.inl lk_Mo_55) (by decide +kernel) rfl [] (by decide +kernel) rfl rfl rfl (Nat.le_of_ble_eq_true rfl) (fun v w2 hv hl2 => ?_)
      obtain ⟨⟨hd, rfl⟩ | ⟨hd, rfl⟩, rfl⟩ := hv
      · change G _ _ _ (wMo w ks ss n la su nm np ns sz tp tn pl rs rd lp ik kp km kn ln rz it)
        refine hG.1 [] 80 _ _ _ _ ?_
        refine ⟨by omega, fun q => ?_, fun q => absurd q (by omega)⟩
        exact ⟨by omega, by omega, trivial, Or.inl ⟨⟨rfl, hd⟩, rfl, rfl⟩⟩
      · change G _ _ _ (wMo w ks ss n la su nm np ns sz tp tn pl rs rd lp ik kp km kn ln rz it)
        refine hG.1 [] 80 _ _ _ _ ?_
        refine ⟨by omega, fun q => absurd rfl q, fun q => ?_⟩
        exact ⟨trivial, Or.inr (Or.inr ⟨fun z => hd z.2, by omega, rfl, rfl⟩)⟩
  · change G _ _ _ (wMo w ks ss n la su nm np ns sz tp tn pl rs rd lp ik kp km kn ln rz it)
    refine hG.1 [] 80 _ _ _ _ ?_
    refine ⟨by omega, fun q => ?_, fun q => absurd rfl q⟩
    exact ⟨trivial, Or.inr (Or.inr ⟨by omega, by omega, rfl, rfl⟩)⟩
theorem c_Mo_count {x : Int} (hx : -2147483648 ≤ x ∧ x ≤ 2147483647) (hW : zOkW w) :
    zMet m_Mo_count [.inr (.inr 0), .inl x] (wMo w ks ss n la su nm np ns sz tp tn pl rs rd lp ik kp km kn ln rz it) (fun v wd => v = some (.inl (if x = 0 then (n : Int) else if x = 1 then (zPosN w 21 : Int) else if x = 2 then zSumN w 21 else if x = 3 then (sz : Int) else -1)) ∧ wd = wMo w ks ss n la su nm np ns sz tp tn pl rs rd lp ik kp km kn ln rz it) := by
  refine zMet.of (own := RX7) rfl (by decide +kernel) tk_Mo_count fok_Mo cok_Mo (Nat.le_of_ble_eq_true rfl) (fun G hG => ?_)
  refine hG.1 [4] 80 _ _ _ _ ?_
  refine z_up0 (n := 21) (P := fun i : Nat => G 4 [(0, .inr (.inr 0)), (1, .inl x), (2, .inl (zPosN w i : Int)), (3, .inl (i : Int))] [] (wMo w ks ss n la su nm np ns sz tp tn pl rs rd lp ik kp km kn ln rz it)) ?_ (fun i hi ih => ?_)
  · refine hG.1 [] 80 _ _ _ _ ?_
    refine ⟨by omega, fun q => ?_, fun q => absurd q (by omega)⟩
    refine ⟨by omega, fun h1 => ?_, fun h1 => ?_⟩
    · refine ⟨by omega, fun h2 => ?_, fun h2 => ?_⟩
      · refine ⟨by omega, fun h3 => ?_, fun h3 => ?_⟩
        · refine ⟨by omega, fun h4 => ?_, fun h4 => ?_⟩
          · exact ⟨trivial, by rw [if_neg h1, if_neg h2, if_neg h3, if_neg h4], rfl⟩
          · exact ⟨trivial, by rw [if_neg h1, if_neg h2, if_neg h3, if_pos h4] <;> rfl, rfl⟩
        · refine hG.2.1 (c_Mo_allWeights ) yv_Mo_allWeights lk_Mo_79 (by decide +kernel) rfl rfl [0, 1, 2, 3, 4, 5, 6, 7, 8, 9, 10, 11, 12, 13, 14] (by decide +kernel) rfl rfl rfl (Nat.le_of_ble_eq_true rfl) (fun v w2 hv hl2 => ?_)
          obtain ⟨rfl, rfl⟩ := hv
          change G _ _ _ (wMo w ks ss n la su nm np ns sz tp tn pl rs rd lp ik kp km kn ln rz it)
          refine hG.1 [] 80 _ _ _ _ ?_
          exact ⟨trivial, by rw [if_neg h1, if_neg h2, if_pos h3] <;> rfl, rfl⟩
      · exact ⟨trivial, by rw [if_neg h1, if_pos h2] <;> rfl, rfl⟩
    · exact ⟨trivial, by rw [if_pos h1] <;> rfl, rfl⟩
  · have hwi := hW i hi
    have e : zPosN w (i + 1) = zPosN w i + (if 0 < w i then 1 else 0) := rfl
    refine hG.1 [4] 80 _ _ _ _ ?_
    refine ⟨by omega, fun q => absurd q (by omega), fun q => ?_⟩
    refine ⟨by omega, by omega, fun h2 => ?_, fun h2 => ?_⟩
    · rw [e, if_neg (by omega)] at ih
      exact ih
    · rw [e, if_pos h2] at ih
      exact ih
theorem c_Mo_write {x : Int} (hx : -2147483648 ≤ x ∧ x ≤ 2147483647) (hn : n ≤ 9) (hK : zOkK ks n) (hS : zOkS ss n) (hW : zOkW w) :
    zMet m_Mo_write [.inr (.inr 0), .inl x] (wMo w ks ss n la su nm np ns sz tp tn pl rs rd lp ik kp km kn ln rz it) (fun v wd => ((0 ≤ x ∧ x < 21) ∧ zSumN w 21 = 0 ∧ v = some (.inl (-2)) ∧ wd = wMo w ks ss n la su nm np ns sz tp tn pl rs rd lp ik kp km kn ln rz it) ∨ ((0 ≤ x ∧ x < 21) ∧ zSumN w 21 ≠ 0 ∧ v = some (.inl (zChgN ks ss x (zMean w) n : Int)) ∧ wd = wMo w ks (zWr ks ss x (zMean w) n) n la su nm np ns sz tp tn pl rs rd lp ik kp km kn ln rz it) ∨ (¬ (0 ≤ x ∧ x < 21) ∧ v = some (.inl (-1)) ∧ wd = wMo w ks ss n la su nm np ns sz tp tn pl rs rd lp ik kp km kn ln rz it)) := by
  have hsum := zSumN_in hW
  have hwei := zWeiN_in (Nat.le_refl 21) hW
  have hmean := zMean_in hW
  refine zMet.of (own := RX7) rfl (by decide +kernel) tk_Mo_write fok_Mo cok_Mo (Nat.le_of_ble_eq_true rfl) (fun G hG => ?_)
  refine hG.1 [] 80 _ _ _ _ ?_
  refine ⟨by omega, ?_⟩
  refine hG.2.2.1 (c_Mo_isSum (x := x) (by omega)) ys_Mo_isSum (Or.inl lk_Mo_63) (by decide +kernel) rfl [] (by decide +kernel) rfl rfl rfl (Nat.le_of_ble_eq_true rfl) (fun v w2 hv hl2 => ?_)
  obtain ⟨⟨hc, rfl⟩ | ⟨hc, rfl⟩, rfl⟩ := hv
  · change G _ _ _ (wMo w ks ss n la su nm np ns sz tp tn pl rs rd lp ik kp km kn ln rz it)
    refine hG.1 [] 80 _ _ _ _ ?_
    refine ⟨by omega, fun q => ?_, fun q => absurd q (by omega)⟩
    refine hG.2.1 (c_Mo_allWeights ) yv_Mo_allWeights lk_Mo_79 (by decide +kernel) rfl rfl [0, 1, 2, 3, 4, 5, 6, 7, 8, 9, 10, 11, 12, 13, 14] (by decide +kernel) rfl rfl rfl (Nat.le_of_ble_eq_true rfl) (fun v w2 hv hl2 => ?_)
    obtain ⟨rfl, rfl⟩ := hv
    change G _ _ _ (wMo w ks ss n la su nm np ns sz tp tn pl rs rd lp ik kp km kn ln rz it)
    refine hG.1 [27] 80 _ _ _ _ ?_
    refine ⟨by omega, fun h1 => ?_, fun h1 => ?_⟩
    · refine z_up0 (n := 21) (P := fun i : Nat => G 27 [(0, .inr (.inr 0)), (1, .inl x), (2, .inl (zSumN w 21)), (3, .inl (zWeiN w i)), (4, .inl (i : Int))] [] (wMo w ks ss n la su nm np ns sz tp tn pl rs rd lp ik kp km kn ln rz it)) ?_ (fun i hi ih => ?_)
      · have em : zWeiN w 21 / zSumN w 21 = zMean w := by rw [zMean, if_neg h1]
        refine hG.1 [63] 80 _ _ _ _ ?_
        refine ⟨by omega, fun q => ?_, fun q => absurd q (by omega)⟩
        refine ⟨by omega, ?_⟩
        rw [em]
        suffices L : G 63 [(0, .inr (.inr 0)), (1, .inl x), (2, .inl (zSumN w 21)), (3, .inl (zMean w)), (4, .inl ((0 : Nat) : Int)), (5, .inl ((0 : Nat) : Int))] [] (wMo w ks (zWr ks ss x (zMean w) 0) n la su nm np ns sz tp tn pl rs rd lp ik kp km kn ln rz it) by
          rw [zWr_0] at L; exact L
        refine z_up0 (n := n) (P := fun i : Nat => G 63 [(0, .inr (.inr 0)), (1, .inl x), (2, .inl (zSumN w 21)), (3, .inl (zMean w)), (4, .inl (zChgN ks ss x (zMean w) i : Int)), (5, .inl (i : Int))] [] (wMo w ks (zWr ks ss x (zMean w) i) n la su nm np ns sz tp tn pl rs rd lp ik kp km kn ln rz it)) ?_ (fun i hi ih => ?_)
        · refine hG.1 [] 80 _ _ _ _ ?_
          refine ⟨by omega, fun q => ?_, fun q => absurd q (by omega)⟩
          exact ⟨trivial, Or.inr (Or.inl ⟨hc, h1, rfl, rfl⟩)⟩
        · have hki := hK i hi
          have hsi := hS i hi
          have hin : 0 ≤ zAlone ks ss x (zMean w) i ∧ zAlone ks ss x (zMean w) i ≤ 20 := by
            unfold zAlone; repeat' split
            all_goals omega
          have e : zChgN ks ss x (zMean w) (i + 1) = zChgN ks ss x (zMean w) i + (if zAlone ks ss x (zMean w) i = ss i then 0 else 1) := rfl
          have eat := zWr_at ks ss x (zMean w) i
          have tail : ∀ v, v = zAlone ks ss x (zMean w) i → G 124 [(0, .inr (.inr 0)), (1, .inl x), (2, .inl (zSumN w 21)), (3, .inl (zMean w)), (4, .inl (zChgN ks ss x (zMean w) i : Int)), (5, .inl (i : Int))] [.inl v] (wMo w ks (zWr ks ss x (zMean w) i) n la su nm np ns sz tp tn pl rs rd lp ik kp km kn ln rz it) := by
            rintro v rfl
            refine hG.1 [63] 80 _ _ _ _ ?_
            refine ⟨by omega, by omega, fun h2 => ?_, fun h2 => ?_⟩
            · rw [eat] at h2
              rw [e, if_neg h2, ← zWr_put] at ih
              exact ⟨by omega, hG.2.2.2.2.1 (fun q hq => List.mem_append_left _ hq) ih⟩
            · rw [eat] at h2
              rw [e, if_pos h2, ← zWr_put] at ih
              exact ⟨by omega, hG.2.2.2.2.1 (fun q hq => List.mem_append_left _ hq) ih⟩
          refine hG.1 [124] 80 _ _ _ _ ?_
          refine ⟨by omega, fun q => absurd q (by omega), fun q => ?_⟩
          refine ⟨by omega, by omega, fun k1 => ?_, fun k1 => ?_⟩
          · refine ⟨by omega, by omega, fun k2 => ?_, fun k2 => ?_⟩
            · refine ⟨by omega, by omega, fun k3 => ?_, fun k3 => ?_⟩
              · exact ⟨by omega, tail _ (by unfold zAlone; rw [if_neg k1, if_neg k2, if_neg k3, eat])⟩
              · exact tail _ (by unfold zAlone; rw [if_neg k1, if_neg k2, if_pos k3])
            · exact tail _ (by unfold zAlone; rw [if_neg k1, if_pos k2])
          · exact tail _ (by unfold zAlone; rw [if_pos k1])
      · refine hG.1 [27] 80 _ _ _ _ ?_
        refine ⟨by omega, fun q => absurd q (by omega), fun q => ?_⟩
        exact ⟨by omega, ih⟩
    · exact ⟨trivial, Or.inl ⟨hc, h1, rfl, rfl⟩⟩
  · change G _ _ _ (wMo w ks ss n la su nm np ns sz tp tn pl rs rd lp ik kp km kn ln rz it)
    refine hG.1 [] 80 _ _ _ _ ?_
    refine ⟨by omega, fun q => absurd rfl q, fun q => ?_⟩
    exact ⟨trivial, Or.inr (Or.inr ⟨hc, rfl, rfl⟩)⟩
theorem c_Mo_off {g : Nat} {sum : Int} (hg : g < 9) (hs : 0 ≤ ss g ∧ ss g ≤ 20) (hx : 0 ≤ sum ∧ sum ≤ 20) :
    zMet m_Mo_off [.inr (.inr 0), .inl (g : Int), .inl sum] (wMo w ks ss n la su nm np ns sz tp tn pl rs rd lp ik kp km kn ln rz it) (fun v wd => v = some (.inl (zOff ss sum g)) ∧ wd = wMo w ks ss n la su nm np ns sz tp tn pl rs rd lp ik kp km kn ln rz it) := by
  refine zMet.of (own := RX7) rfl (by decide +kernel) tk_Mo_off fok_Mo cok_Mo (Nat.le_of_ble_eq_true rfl) (fun G hG => ?_)
  refine hG.1 [] 80 _ _ _ _ ?_
  refine ⟨by omega, by omega, fun q => ?_, fun q => ?_⟩
  · exact ⟨trivial, by rw [zOff, zAbs, if_neg (by omega)], rfl⟩
  · exact ⟨trivial, by rw [zOff, zAbs, if_pos (by omega)], rfl⟩
theorem c_Mo_middle (hn : n ≤ 9) (hS : zOkS ss n) :
    zMet m_Mo_middle [.inr (.inr 0)] (wMo w ks ss n la su nm np ns sz tp tn pl rs rd lp ik kp km kn ln rz it) (fun v wd => v = some (.inl (zMid ss n n)) ∧ wd = wMo w ks ss n la su nm np ns sz tp tn pl rs rd lp ik kp km kn ln rz it) := by
  refine zMet.of (own := RX7) rfl (by decide +kernel) tk_Mo_middle fok_Mo cok_Mo (Nat.le_of_ble_eq_true rfl) (fun G hG => ?_)
  refine hG.1 [4] 80 _ _ _ _ ?_
  refine z_up0 (n := n) (P := fun i : Nat => G 4 [(0, .inr (.inr 0)), (1, .inl (zMid ss n i)), (2, .inl (i : Int))] [] (wMo w ks ss n la su nm np ns sz tp tn pl rs rd lp ik kp km kn ln rz it)) ?_ (fun i hi ih => ?_)
  · refine hG.1 [] 80 _ _ _ _ ?_
    refine ⟨by omega, fun q => ?_, fun q => absurd q (by omega)⟩
    exact ⟨trivial, rfl, rfl⟩
  · have hm := zMid_in (ss := ss) (n := n) i
    have e : zMid ss n (i + 1) = if (zPlaceN ss i n : Int) = ((n : Int) - 1) / 2 then (i : Int) else zMid ss n i := rfl
    have hsi := hS i hi
    refine hG.1 [17] 80 _ _ _ _ ?_
    refine ⟨by omega, fun q => absurd q (by omega), fun q => ?_⟩
    refine z_up0 (n := n) (P := fun j : Nat => G 17 [(0, .inr (.inr 0)), (1, .inl (zMid ss n i)), (2, .inl (i : Int)), (3, .inl (zPlaceN ss i j : Int)), (4, .inl (j : Int))] [] (wMo w ks ss n la su nm np ns sz tp tn pl rs rd lp ik kp km kn ln rz it)) ?_ (fun j hj jh => ?_)
    · have hp := zPlaceN_le ss i n
      refine hG.1 [4] 80 _ _ _ _ ?_
      refine ⟨by omega, fun q2 => ?_, fun q2 => absurd q2 (by omega)⟩
      refine ⟨by omega, by omega, fun h1 => ?_, fun h1 => ?_⟩
      · rw [e, if_neg h1] at ih
        exact hG.2.2.2.2.1 (fun q hq => List.mem_append_left _ hq) ih
      · rw [e, if_pos h1] at ih
        exact hG.2.2.2.2.1 (fun q hq => List.mem_append_left _ hq) ih
    · have hsj := hS j hj
      have hp := zPlaceN_le ss i j
      have e2 : zPlaceN ss i (j + 1) = zPlaceN ss i j + (if ss j < ss i ∨ (ss j = ss i ∧ j < i) then 1 else 0) := rfl
      refine hG.1 [17] 80 _ _ _ _ ?_
      refine ⟨by omega, fun q2 => absurd q2 (by omega), fun q2 => ?_⟩
      refine ⟨by omega, by omega, by omega, fun h1 => ?_, fun h1 => ?_⟩
      · rw [e2, if_pos (Or.inl h1)] at jh
        exact jh
      · refine ⟨by omega, by omega, by omega, fun h2 => ?_, fun h2 => ?_⟩
        · rw [e2, if_neg (by omega)] at jh
          exact jh
        · refine ⟨by omega, fun h3 => ?_, fun h3 => ?_⟩
          · rw [e2, if_neg (by omega)] at jh
            exact jh
          · rw [e2, if_pos (by omega)] at jh
            exact jh
end M2
