/-! THE REFERENCE: three guests -/
section M7
variable {w ks ss : Int → Int} {n : Nat} {la su nm np ns : Int → Int} {sz : Nat} {tp : Int → Int} {tn pl : Nat} {rs : Int} {rd : Int → Int} {lp ik : Int} {kp : Int → Int} {km kn : Int} {ln rz it : Int → Int}
theorem c_Mo_areThree {a b c : Int} (ha : -2147483648 ≤ a ∧ a ≤ 2147483647) (hb : -2147483648 ≤ b ∧ b ≤ 2147483647) (hc : -2147483648 ≤ c ∧ c ≤ 2147483647) (hn : n ≤ 9) :
    zMet m_Mo_areThree [.inr (.inr 0), .inl a, .inl b, .inl c] (wMo w ks ss n la su nm np ns sz tp tn pl rs rd lp ik kp km kn ln rz it) (fun v wd => z_bool (z3 n a b c) v ∧ wd = wMo w ks ss n la su nm np ns sz tp tn pl rs rd lp ik kp km kn ln rz it) := by
  refine zMet.of (own := RX7) rfl (by decide +kernel) tk_Mo_areThree fok_Mo cok_Mo (Nat.le_of_ble_eq_true rfl) (fun G hG => ?_)
  refine hG.1 [] 80 _ _ _ _ ?_
  refine hG.2.1 (c_Mo_isGuest (g := a) ha hn) yv_Mo_isGuest lk_Mo_75 (by decide +kernel) rfl rfl [0, 1, 2, 3, 4, 5, 6, 7, 8, 9, 10, 11, 12, 13, 14] (by decide +kernel) rfl rfl rfl (Nat.le_of_ble_eq_true rfl) (fun v w2 hv hl2 => ?_)
  obtain ⟨⟨h1, rfl⟩ | ⟨h1, rfl⟩, rfl⟩ := hv
  · change G _ _ _ (wMo w ks ss n la su nm np ns sz tp tn pl rs rd lp ik kp km kn ln rz it)
    refine hG.1 [] 80 _ _ _ _ ?_
    refine ⟨by omega, fun q => absurd q (by omega), fun q => ?_⟩
    refine hG.2.1 (c_Mo_isGuest (g := b) hb hn) yv_Mo_isGuest lk_Mo_75 (by decide +kernel) rfl rfl [0, 1, 2, 3, 4, 5, 6, 7, 8, 9, 10, 11, 12, 13, 14] (by decide +kernel) rfl rfl rfl (Nat.le_of_ble_eq_true rfl) (fun v w2 hv hl2 => ?_)
    obtain ⟨⟨h2, rfl⟩ | ⟨h2, rfl⟩, rfl⟩ := hv
    · change G _ _ _ (wMo w ks ss n la su nm np ns sz tp tn pl rs rd lp ik kp km kn ln rz it)
      refine hG.1 [] 80 _ _ _ _ ?_
      refine ⟨by omega, fun q => absurd q (by omega), fun q => ?_⟩
      refine hG.2.1 (c_Mo_isGuest (g := c) hc hn) yv_Mo_isGuest lk_Mo_75 (by decide +kernel) rfl rfl [0, 1, 2, 3, 4, 5, 6, 7, 8, 9, 10, 11, 12, 13, 14] (by decide +kernel) rfl rfl rfl (Nat.le_of_ble_eq_true rfl) (fun v w2 hv hl2 => ?_)
      obtain ⟨⟨h3, rfl⟩ | ⟨h3, rfl⟩, rfl⟩ := hv
      · change G _ _ _ (wMo w ks ss n la su nm np ns sz tp tn pl rs rd lp ik kp km kn ln rz it)
        refine hG.1 [] 80 _ _ _ _ ?_
        refine ⟨by omega, fun q => absurd q (by omega), fun q => ?_⟩
        refine ⟨by omega, fun q1 => ?_, fun q1 => ?_⟩
        · exact ⟨Or.inl rfl, Or.inr ⟨fun z => by have := z.2.2.2.1; omega, rfl⟩, rfl⟩
        · refine ⟨by omega, fun q2 => ?_, fun q2 => ?_⟩
          · exact ⟨Or.inl rfl, Or.inr ⟨fun z => by have := z.2.2.2.2.1; omega, rfl⟩, rfl⟩
          · refine ⟨by omega, fun q3 => ?_, fun q3 => ?_⟩
            · exact ⟨Or.inl rfl, Or.inr ⟨fun z => by have := z.2.2.2.2.2; omega, rfl⟩, rfl⟩
            · exact ⟨Or.inr rfl, Or.inl ⟨⟨h1, h2, h3, q1, q2, q3⟩, rfl⟩, rfl⟩
      · change G _ _ _ (wMo w ks ss n la su nm np ns sz tp tn pl rs rd lp ik kp km kn ln rz it)
        refine hG.1 [] 80 _ _ _ _ ?_
        refine ⟨by omega, fun q => ?_, fun q => absurd rfl q⟩
        exact ⟨Or.inl rfl, Or.inr ⟨fun z => h3 z.2.2.1, rfl⟩, rfl⟩
    · change G _ _ _ (wMo w ks ss n la su nm np ns sz tp tn pl rs rd lp ik kp km kn ln rz it)
      refine hG.1 [] 80 _ _ _ _ ?_
      refine ⟨by omega, fun q => ?_, fun q => absurd rfl q⟩
      exact ⟨Or.inl rfl, Or.inr ⟨fun z => h2 z.2.1, rfl⟩, rfl⟩
  · change G _ _ _ (wMo w ks ss n la su nm np ns sz tp tn pl rs rd lp ik kp km kn ln rz it)
    refine hG.1 [] 80 _ _ _ _ ?_
    refine ⟨by omega, fun q => ?_, fun q => absurd rfl q⟩
    exact ⟨Or.inl rfl, Or.inr ⟨fun z => h1 z.1, rfl⟩, rfl⟩
def zWas (nm : Int → Int) (g : Int) : Nat → Prop
  | 0 => True
  | k + 1 => zWas nm g k ∧ g < nm k
theorem c_Mo_wasThere {g : Nat} (hg : g < 9) (hz : sz ≤ 12) (hN : ∀ i : Nat, i < sz → 0 ≤ nm i ∧ nm i ≤ 9) :
    zMet m_Mo_wasThere [.inr (.inr 0), .inl (g : Int)] (wMo w ks ss n la su nm np ns sz tp tn pl rs rd lp ik kp km kn ln rz it) (fun v wd => z_bool (0 < sz ∧ zWas nm g sz) v ∧ wd = wMo w ks ss n la su nm np ns sz tp tn pl rs rd lp ik kp km kn ln rz it) := by
  refine zMet.of (own := RX7) rfl (by decide +kernel) tk_Mo_wasThere fok_Mo cok_Mo (Nat.le_of_ble_eq_true rfl) (fun G hG => ?_)
  refine hG.1 [15] 80 _ _ _ _ ?_
  have key : ∀ f : Int, z_bool (0 < sz ∧ zWas nm g 0) (some (.inl f)) → G 15 [(0, .inr (.inr 0)), (1, .inl (g : Int)), (2, .inl f), (3, .inl ((0 : Nat) : Int))] [] (wMo w ks ss n la su nm np ns sz tp tn pl rs rd lp ik kp km kn ln rz it) := by
    refine z_up0 (n := sz) (P := fun i : Nat => ∀ f : Int, z_bool (0 < sz ∧ zWas nm g i) (some (.inl f)) → G 15 [(0, .inr (.inr 0)), (1, .inl (g : Int)), (2, .inl f), (3, .inl (i : Int))] [] (wMo w ks ss n la su nm np ns sz tp tn pl rs rd lp ik kp km kn ln rz it)) (fun f hf => ?_) (fun i hi ih f hf => ?_)
    · rcases hf with ⟨hc, hv⟩ | ⟨hc, hv⟩
      · obtain rfl : f = 1 := by injection hv with hv; injection hv
        refine hG.1 [] 80 _ _ _ _ ?_
        refine ⟨by omega, fun q => ?_, fun q => absurd q (by omega)⟩
        exact ⟨Or.inr rfl, Or.inl ⟨hc, rfl⟩, rfl⟩
      · obtain rfl : f = 0 := by injection hv with hv; injection hv
        refine hG.1 [] 80 _ _ _ _ ?_
        refine ⟨by omega, fun q => ?_, fun q => absurd q (by omega)⟩
        exact ⟨Or.inl rfl, Or.inr ⟨hc, rfl⟩, rfl⟩
    · have hNi := hN i hi
      rcases hf with ⟨hc, hv⟩ | ⟨hc, hv⟩
      · obtain rfl : f = 1 := by injection hv with hv; injection hv
        refine hG.1 [15] 80 _ _ _ _ ?_
        refine ⟨by omega, fun q => absurd q (by omega), fun q => ?_⟩
        refine ⟨by omega, fun q => absurd q (by omega), fun q => ?_⟩
        refine ⟨by omega, by omega, fun h1 => ?_, fun h1 => ?_⟩
        · exact ih 0 (Or.inr ⟨fun z => by have := z.2.2; omega, rfl⟩)
        · exact ih 1 (Or.inl ⟨⟨hc.1, hc.2, h1⟩, rfl⟩)
      · obtain rfl : f = 0 := by injection hv with hv; injection hv
        refine hG.1 [15] 80 _ _ _ _ ?_
        refine ⟨by omega, fun q => absurd q (by omega), fun q => ?_⟩
        refine ⟨by omega, fun q => ?_, fun q => absurd rfl q⟩
        exact ih 0 (Or.inr ⟨fun z => hc ⟨z.1, z.2.1⟩, rfl⟩)
  refine ⟨by omega, fun q => ?_, fun q => ?_⟩
  · exact key 0 (Or.inr ⟨fun z => by have := z.1; omega, rfl⟩)
  · exact key 1 (Or.inl ⟨⟨by omega, trivial⟩, rfl⟩)
end M7
