/-! THE REFERENCE: what a sheet lacks -/
def zLk (ln rz : Int → Int) (x l f m : Int) : Int := if ln x = l then (if 0 ≤ f ∧ f ≤ rz x - m then 0 else -13) else if 0 ≤ ln x then -12 else -11
section M8
variable {w ks ss : Int → Int} {n : Nat} {la su nm np ns : Int → Int} {sz : Nat} {tp : Int → Int} {tn pl : Nat} {rs : Int} {rd : Int → Int} {lp ik : Int} {kp : Int → Int} {km kn : Int} {ln rz it : Int → Int}
theorem c_Mo_lacksRow {x : Nat} {l f m : Int} (hx : x < 4) (hl : -2147483648 ≤ l ∧ l ≤ 2147483647) (hf : -2147483648 ≤ f ∧ f ≤ 2147483647) (hm : 0 ≤ m ∧ m ≤ 24) (h1 : -1 ≤ ln x ∧ ln x ≤ 2) (h2 : 0 ≤ rz x ∧ rz x ≤ 24) :
    zMet m_Mo_lacksRow [.inr (.inr 0), .inl (x : Int), .inl l, .inl f, .inl m] (wMo w ks ss n la su nm np ns sz tp tn pl rs rd lp ik kp km kn ln rz it) (fun v wd => v = some (.inl (zLk ln rz x l f m)) ∧ wd = wMo w ks ss n la su nm np ns sz tp tn pl rs rd lp ik kp km kn ln rz it) := by
  refine zMet.of (own := RX7) rfl (by decide +kernel) tk_Mo_lacksRow fok_Mo cok_Mo (Nat.le_of_ble_eq_true rfl) (fun G hG => ?_)
  refine hG.1 [] 80 _ _ _ _ ?_
  refine ⟨by omega, by omega, fun q1 => ?_, fun q1 => ?_⟩
  · refine ⟨by omega, by omega, by omega, ?_⟩
    refine hG.2.2.1 (c_Mo_in (a := f) (b := 0) (c := rz x - m) (by omega) (by omega) (by omega)) ys_Mo_in (Or.inl lk_Mo_55) (by decide +kernel) rfl [] (by decide +kernel) rfl rfl rfl (Nat.le_of_ble_eq_true rfl) (fun v w2 hv hl2 => ?_)
    obtain ⟨⟨hd, rfl⟩ | ⟨hd, rfl⟩, rfl⟩ := hv
    · change G _ _ _ (wMo w ks ss n la su nm np ns sz tp tn pl rs rd lp ik kp km kn ln rz it)
      refine hG.1 [] 80 _ _ _ _ ?_
      refine ⟨by omega, fun q => absurd q (by omega), fun q => ?_⟩
      exact ⟨trivial, by rw [zLk, if_pos q1, if_pos hd], rfl⟩
    · change G _ _ _ (wMo w ks ss n la su nm np ns sz tp tn pl rs rd lp ik kp km kn ln rz it)
      refine hG.1 [] 80 _ _ _ _ ?_
      refine ⟨by omega, fun q => ?_, fun q => absurd rfl q⟩
      exact ⟨trivial, by rw [zLk, if_pos q1, if_neg hd], rfl⟩
  · refine ⟨by omega, by omega, fun q2 => ?_, fun q2 => ?_⟩
    · exact ⟨trivial, by rw [zLk, if_neg q1, if_pos q2], rfl⟩
    · exact ⟨trivial, by rw [zLk, if_neg q1, if_neg (by omega)], rfl⟩
theorem c_Mo_asLane {l x : Int} (hl : 0 ≤ l ∧ l ≤ 2) :
    zMet m_Mo_asLane [.inl l, .inr (.inl x)] [] (fun v wd => v = some (.inr (.inl (if l = 0 then (x * 2 ^ 48).bmod 18446744073709551616 / 2 ^ 48 else if l = 1 then (x * 2 ^ 32).bmod 18446744073709551616 / 2 ^ 32 else x))) ∧ wd = []) := by
  have b : ∀ y : Int, -9223372036854775808 ≤ y.bmod 18446744073709551616 ∧ y.bmod 18446744073709551616 ≤ 9223372036854775807 := fun y => by
    have h1 := Int.le_bmod (x := y) (m := 18446744073709551616) (by omega)
    have h2 := Int.bmod_lt (x := y) (m := 18446744073709551616) (by omega)
    omega
  have b1 := b (x * 2 ^ Int.toNat 48)
  have b2 := b (x * 2 ^ Int.toNat 32)
  refine zMet.of (own := RX7) rfl (by decide +kernel) tk_Mo_asLane fok_Mo cok_Mo (Nat.le_of_ble_eq_true rfl) (fun G hG => ?_)
  refine hG.1 [] 80 _ _ _ _ ?_
  refine ⟨by omega, fun q1 => ?_, fun q1 => ?_⟩
  · refine ⟨by omega, fun q2 => ?_, fun q2 => ?_⟩
    · exact ⟨trivial, by rw [if_neg q1, if_neg q2], rfl⟩
    · exact ⟨by omega, by omega, trivial, by rw [if_neg q1, if_pos q2] <;> rfl, rfl⟩
  · exact ⟨by omega, by omega, trivial, by rw [if_pos q1] <;> rfl, rfl⟩
end M8
