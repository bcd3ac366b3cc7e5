/-! THE REFERENCE: a sheet laid -/
def zZr (it : Int → Int) (b : Int) : Nat → (Int → Int)
  | 0 => it
  | k + 1 => z_u (zZr it b k) (b + k) 0
section M10
variable {w ks ss : Int → Int} {n : Nat} {la su nm np ns : Int → Int} {sz : Nat} {tp : Int → Int} {tn pl : Nat} {rs : Int} {rd : Int → Int} {lp ik : Int} {kp : Int → Int} {km kn : Int} {ln rz it : Int → Int}
theorem c_Mo_sheet {x l s : Int} (hx : -2147483648 ≤ x ∧ x ≤ 2147483647) (hl : -2147483648 ≤ l ∧ l ≤ 2147483647) (hs : -2147483648 ≤ s ∧ s ≤ 2147483647) :
    zMet m_Mo_sheet [.inr (.inr 0), .inl x, .inl l, .inl s] (wMo w ks ss n la su nm np ns sz tp tn pl rs rd lp ik kp km kn ln rz it) (fun v wd => ((((0 ≤ x ∧ x < 4) ∧ (0 ≤ l ∧ l ≤ 2)) ∧ s ≤ 24) ∧ 0 ≤ s ∧ v = some (.inl s) ∧ wd = wMo w ks ss n la su nm np ns sz tp tn pl rs rd lp ik kp km kn (z_u ln x l) (z_u rz x s) (zZr it (24 * x) 24)) ∨ ((((0 ≤ x ∧ x < 4) ∧ (0 ≤ l ∧ l ≤ 2)) ∧ s ≤ 24) ∧ s < 0 ∧ v = some (.inl (-14)) ∧ wd = wMo w ks ss n la su nm np ns sz tp tn pl rs rd lp ik kp km kn ln rz it) ∨ (¬ (((0 ≤ x ∧ x < 4) ∧ (0 ≤ l ∧ l ≤ 2)) ∧ s ≤ 24) ∧ v = some (.inl (-1)) ∧ wd = wMo w ks ss n la su nm np ns sz tp tn pl rs rd lp ik kp km kn ln rz it)) := by
  refine zMet.of (own := RX7) rfl (by decide +kernel) tk_Mo_sheet fok_Mo cok_Mo (Nat.le_of_ble_eq_true rfl) (fun G hG => ?_)
  refine hG.1 [] 80 _ _ _ _ ?_
  refine hG.2.2.1 (c_Mo_isSheet (x := x) (l := l) hx hl) ys_Mo_isSheet (Or.inl lk_Mo_222) (by decide +kernel) rfl [] (by decide +kernel) rfl rfl rfl (Nat.le_of_ble_eq_true rfl) (fun v w2 hv hl2 => ?_)
  obtain ⟨⟨hc, rfl⟩ | ⟨hc, rfl⟩, rfl⟩ := hv
  · change G _ _ _ (wMo w ks ss n la su nm np ns sz tp tn pl rs rd lp ik kp km kn ln rz it)
    refine hG.1 [40] 80 _ _ _ _ ?_
    refine ⟨by omega, fun q => absurd q (by omega), fun q => ?_⟩
    refine ⟨by omega, fun h1 => ?_, fun h1 => ?_⟩
    · refine ⟨by omega, fun h2 => ?_, fun h2 => ?_⟩
      · refine ⟨by omega, by omega, ?_⟩
        refine z_up0 (n := 24) (P := fun i : Nat => G 40 [(0, .inr (.inr 0)), (1, .inl x), (2, .inl l), (3, .inl s), (4, .inl (i : Int))] [] (wMo w ks ss n la su nm np ns sz tp tn pl rs rd lp ik kp km kn (z_u ln x l) (z_u rz x s) (zZr it (24 * x) i))) ?_ (fun i hi ih => ?_)
        · refine hG.1 [] 80 _ _ _ _ ?_
          refine ⟨by omega, fun q1 => ?_, fun q1 => absurd q1 (by omega)⟩
          exact ⟨trivial, Or.inl ⟨⟨hc, h1⟩, h2, rfl, rfl⟩⟩
        · refine hG.1 [40] 80 _ _ _ _ ?_
          refine ⟨by omega, fun q1 => absurd q1 (by omega), fun q1 => ?_⟩
          exact ⟨by omega, ih⟩
      · exact ⟨trivial, Or.inr (Or.inl ⟨⟨hc, h1⟩, h2, rfl, rfl⟩)⟩
    · exact ⟨trivial, Or.inr (Or.inr ⟨fun z => by have := z.2; omega, rfl, rfl⟩)⟩
  · change G _ _ _ (wMo w ks ss n la su nm np ns sz tp tn pl rs rd lp ik kp km kn ln rz it)
    refine hG.1 [] 80 _ _ _ _ ?_
    refine ⟨by omega, fun q => ?_, fun q => absurd rfl q⟩
    exact ⟨trivial, Or.inr (Or.inr ⟨fun z => hc z.1, rfl, rfl⟩)⟩
end M10
