/-! THE REFERENCE: sets of sums, sheets, three guests, drop -/
theorem c_Mo_areSums {x : Int} (hx : -2147483648 ≤ x ∧ x ≤ 2147483647) : zMet m_Mo_areSums [.inl x] [] (fun v w => z_bool (0 < x ∧ x < 2097152) v ∧ w = []) := by
  refine zMet.of (own := RX7) rfl (by decide +kernel) tk_Mo_areSums fok_Mo cok_Mo (Nat.le_of_ble_eq_true rfl) (fun G hG => ?_)
  refine hG.1 [] 80 _ _ _ _ ?_
  refine ⟨by omega, ?_⟩
  refine hG.2.2.1 (c_Mo_in (a := x) (b := 1) (c := 2097151) (by omega) (by omega) (by omega)) ys_Mo_in (Or.inl lk_Mo_55) (by decide +kernel) rfl [] (by decide +kernel) rfl rfl rfl (Nat.le_of_ble_eq_true rfl) (fun v w2 hv hl2 => ?_)
  obtain ⟨⟨hc, rfl⟩ | ⟨hc, rfl⟩, rfl⟩ := hv
  · refine hG.1 [] 80 _ _ _ _ ?_
    exact ⟨Or.inr rfl, Or.inl ⟨by omega, rfl⟩, rfl⟩
  · refine hG.1 [] 80 _ _ _ _ ?_
    exact ⟨Or.inl rfl, Or.inr ⟨by omega, rfl⟩, rfl⟩
theorem c_Mo_isSheet {x l : Int} (hx : -2147483648 ≤ x ∧ x ≤ 2147483647) (hl : -2147483648 ≤ l ∧ l ≤ 2147483647) : zMet m_Mo_isSheet [.inl x, .inl l] [] (fun v w => z_bool ((0 ≤ x ∧ x < 4) ∧ (0 ≤ l ∧ l ≤ 2)) v ∧ w = []) := by
  refine zMet.of (own := RX7) rfl (by decide +kernel) tk_Mo_isSheet fok_Mo cok_Mo (Nat.le_of_ble_eq_true rfl) (fun G hG => ?_)
  refine hG.1 [] 80 _ _ _ _ ?_
  refine ⟨by omega, ?_⟩
  refine hG.2.2.1 (c_Mo_in (a := x) (b := 0) (c := 3) (by omega) (by omega) (by omega)) ys_Mo_in (Or.inl lk_Mo_55) (by decide +kernel) rfl [] (by decide +kernel) rfl rfl rfl (Nat.le_of_ble_eq_true rfl) (fun v w2 hv hl2 => ?_)
  obtain ⟨⟨hc, rfl⟩ | ⟨hc, rfl⟩, rfl⟩ := hv
  · refine hG.1 [] 80 _ _ _ _ ?_
    refine ⟨by omega, fun q => absurd q (by omega), fun q => ?_⟩
    refine ⟨by omega, ?_⟩
    refine hG.2.2.1 (c_Mo_in (a := l) (b := 0) (c := 2) (by omega) (by omega) (by omega)) ys_Mo_in (Or.inl lk_Mo_55) (by decide +kernel) rfl [] (by decide +kernel) rfl rfl rfl (Nat.le_of_ble_eq_true rfl) (fun v w2 hv hl2 => ?_)
    obtain ⟨⟨hd, rfl⟩ | ⟨hd, rfl⟩, rfl⟩ := hv
    · refine hG.1 [] 80 _ _ _ _ ?_
      refine ⟨by omega, fun q => absurd q (by omega), fun q => ?_⟩
      exact ⟨Or.inr rfl, Or.inl ⟨by omega, rfl⟩, rfl⟩
    · refine hG.1 [] 80 _ _ _ _ ?_
      refine ⟨by omega, fun q => ?_, fun q => absurd rfl q⟩
      exact ⟨Or.inl rfl, Or.inr ⟨fun z => hd z.2, rfl⟩, rfl⟩
  · refine hG.1 [] 80 _ _ _ _ ?_
    refine ⟨by omega, fun q => ?_, fun q => absurd rfl q⟩
    exact ⟨Or.inl rfl, Or.inr ⟨fun z => hc (by omega), rfl⟩, rfl⟩
section M6
variable {w ks ss : Int → Int} {n : Nat} {la su nm np ns : Int → Int} {sz : Nat} {tp : Int → Int} {tn pl : Nat} {rs : Int} {rd : Int → Int} {lp ik : Int} {kp : Int → Int} {km kn : Int} {ln rz it : Int → Int}
theorem c_Mo_drop {x : Int} (hx : -2147483648 ≤ x ∧ x ≤ 2147483647) (hl : ∀ i : Nat, i < 4 → -1 ≤ ln i ∧ ln i ≤ 2) :
    zMet m_Mo_drop [.inr (.inr 0), .inl x] (wMo w ks ss n la su nm np ns sz tp tn pl rs rd lp ik kp km kn ln rz it) (fun v wd => ((0 ≤ x ∧ x < 4) ∧ 0 ≤ ln x ∧ v = some (.inl (rz x)) ∧ wd = wMo w ks ss n la su nm np ns sz tp tn pl rs rd lp ik kp km kn (z_u ln x (-1)) rz it) ∨ ((0 ≤ x ∧ x < 4) ∧ ln x < 0 ∧ v = some (.inl (-11)) ∧ wd = wMo w ks ss n la su nm np ns sz tp tn pl rs rd lp ik kp km kn ln rz it) ∨ (¬ (0 ≤ x ∧ x < 4) ∧ v = some (.inl (-1)) ∧ wd = wMo w ks ss n la su nm np ns sz tp tn pl rs rd lp ik kp km kn ln rz it)) := by
  refine zMet.of (own := RX7) rfl (by decide +kernel) tk_Mo_drop fok_Mo cok_Mo (Nat.le_of_ble_eq_true rfl) (fun G hG => ?_)
  refine hG.1 [] 80 _ _ _ _ ?_
  refine ⟨by omega, ?_⟩
  refine hG.2.2.1 (c_Mo_in (a := x) (b := 0) (c := 3) (by omega) (by omega) (by omega)) ys_Mo_in (Or.inl lk_Mo_55) (by decide +kernel) rfl [] (by decide +kernel) rfl rfl rfl (Nat.le_of_ble_eq_true rfl) (fun v w2 hv hl2 => ?_)
  obtain ⟨⟨hc, rfl⟩ | ⟨hc, rfl⟩, rfl⟩ := hv
  · change G _ _ _ (wMo w ks ss n la su nm np ns sz tp tn pl rs rd lp ik kp km kn ln rz it)
    obtain ⟨i, rfl⟩ := z_nat hc.1
    have hi := hl i (by omega)
    refine hG.1 [] 80 _ _ _ _ ?_
    refine ⟨by omega, fun q => ?_, fun q => absurd q (by omega)⟩
    refine ⟨by omega, by omega, fun h1 => ?_, fun h1 => ?_⟩
    · exact ⟨by omega, by omega, trivial, Or.inl ⟨by omega, h1, rfl, rfl⟩⟩
    · exact ⟨trivial, Or.inr (Or.inl ⟨by omega, h1, rfl, rfl⟩)⟩
  · change G _ _ _ (wMo w ks ss n la su nm np ns sz tp tn pl rs rd lp ik kp km kn ln rz it)
    refine hG.1 [] 80 _ _ _ _ ?_
    refine ⟨by omega, fun q => absurd rfl q, fun q => ?_⟩
    exact ⟨trivial, Or.inr (Or.inr ⟨by omega, rfl, rfl⟩)⟩
end M6
