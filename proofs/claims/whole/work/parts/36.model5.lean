/-! THE REFERENCE: lowest terms -/
theorem c_Mo_common {t b : Nat} (ht : t < 1152921504606846976) (hb : b < 1152921504606846976) : zMet m_Mo_common [.inr (.inl (t : Int)), .inr (.inl (b : Int))] [] (fun v w => v = some (.inr (.inl ((Nat.gcd t b : Nat) : Int))) ∧ w = []) := by
  refine zMet.of (own := RX7) rfl (by decide +kernel) tk_Mo_common fok_Mo cok_Mo (Nat.le_of_ble_eq_true rfl) (fun G hG => ?_)
  refine hG.1 [6] 80 _ _ _ _ ?_
  have key : ∀ m c r : Nat, r < m → c < 1152921504606846976 → r < 1152921504606846976 → Nat.gcd c r = Nat.gcd t b → G 6 [(0, .inr (.inl (t : Int))), (2, .inr (.inl (b : Int))), (4, .inr (.inl (c : Int))), (6, .inr (.inl (r : Int)))] [] [] := by
    intro m
    induction m with
    | zero => intro c r h; omega
    | succ m ih =>
      intro c r h hc hr he
      refine hG.1 [6] 80 _ _ _ _ ?_
      refine ⟨by omega, fun q => ?_, fun q => ?_⟩
      · have h0 : r = 0 := by omega
        subst h0
        rw [Nat.gcd_zero_right] at he
        exact ⟨trivial, by rw [he], rfl⟩
      · have hm : c % r < r := Nat.mod_lt _ (by omega)
        have hg : Nat.gcd r (c % r) = Nat.gcd t b := by
          rw [← he, Nat.gcd_comm c r, Nat.gcd_rec r c, Nat.gcd_comm]
        have h6 := ih r (c % r) (by omega) hr (by omega) hg
        rw [Int.natCast_emod] at h6
        exact ⟨by omega, hG.2.2.2.2.1 (fun q hq => List.mem_append_left _ hq) h6⟩
  exact key (b + 1) t b (by omega) ht hb rfl
theorem c_Mo_part {t b : Nat} {part : Int} (ht : t < 1152921504606846976) (hb : 0 < b ∧ b < 1152921504606846976) (hp : part = 0 ∨ part = 1) : zMet m_Mo_part [.inr (.inl (t : Int)), .inr (.inl (b : Int)), .inl part] [] (fun v w => v = some (.inr (.inl (zLow t b part))) ∧ w = []) := by
  have hgpos : 0 < Nat.gcd t b := Nat.gcd_pos_of_pos_right _ hb.1
  have hgle : Nat.gcd t b ≤ b := Nat.gcd_le_right _ hb.1
  refine zMet.of (own := RX7) rfl (by decide +kernel) tk_Mo_part fok_Mo cok_Mo (Nat.le_of_ble_eq_true rfl) (fun G hG => ?_)
  refine hG.1 [] 80 _ _ _ _ ?_
  refine ⟨by omega, fun h1 => ?_, fun h1 => ?_⟩
  · refine hG.2.2.1 (c_Mo_common (t := t) (b := b) ht hb.2) ys_Mo_common (Or.inl lk_Mo_156) (by decide +kernel) rfl [] (by decide +kernel) rfl rfl rfl (Nat.le_of_ble_eq_true rfl) (fun v w2 hv hl2 => ?_)
    obtain ⟨rfl, rfl⟩ := hv
    refine hG.1 [] 80 _ _ _ _ ?_
    refine ⟨by omega, trivial, ?_, rfl⟩
    rw [zLow, if_neg h1, Int.natCast_ediv, Nat.gcd_comm b t]
  · refine hG.2.2.1 (c_Mo_common (t := t) (b := b) ht hb.2) ys_Mo_common (Or.inl lk_Mo_156) (by decide +kernel) rfl [] (by decide +kernel) rfl rfl rfl (Nat.le_of_ble_eq_true rfl) (fun v w2 hv hl2 => ?_)
    obtain ⟨rfl, rfl⟩ := hv
    refine hG.1 [] 80 _ _ _ _ ?_
    refine ⟨by omega, trivial, ?_, rfl⟩
    rw [zLow, if_pos h1, Int.natCast_ediv, Nat.gcd_comm b t]
