/-! THE REFERENCE: a night put away -/
def zCp (ns ss : Int → Int) (b : Int) : Nat → (Int → Int)
  | 0 => ns
  | k + 1 => z_u (zCp ns ss b k) (b + k) (ss k)
section M9
variable {w ks ss : Int → Int} {n : Nat} {la su nm np ns : Int → Int} {sz : Nat} {tp : Int → Int} {tn pl : Nat} {rs : Int} {rd : Int → Int} {lp ik : Int} {kp : Int → Int} {km kn : Int} {ln rz it : Int → Int}
theorem c_Mo_night {x : Int} (hx : -2147483648 ≤ x ∧ x ≤ 2147483647) (hn : n ≤ 9) (hS : zOkS ss n) (hlw : 0 ≤ la 0 ∧ la 0 ≤ 3) (hla : 0 ≤ la 1 ∧ la 1 ≤ 2) (hz : sz ≤ 12) :
    zMet m_Mo_night [.inr (.inr 0), .inl x] (wMo w ks ss n la su nm np ns sz tp tn pl rs rd lp ik kp km kn ln rz it) (fun v wd => ((0 ≤ x ∧ x < 21) ∧ sz ≠ 12 ∧ n ≠ 0 ∧ v = some (.inl (sz : Int)) ∧ wd = wMo w ks ss n la (z_u su sz x) (z_u nm sz n) (z_u np sz (zPyM ss n (la 0) (la 1) x)) (zCp ns ss (9 * sz) n) (sz + 1) tp tn pl rs rd lp ik kp km kn ln rz it) ∨ ((0 ≤ x ∧ x < 21) ∧ sz = 12 ∧ v = some (.inl (-3)) ∧ wd = wMo w ks ss n la su nm np ns sz tp tn pl rs rd lp ik kp km kn ln rz it) ∨ ((0 ≤ x ∧ x < 21) ∧ sz ≠ 12 ∧ n = 0 ∧ v = some (.inl (-2)) ∧ wd = wMo w ks ss n la su nm np ns sz tp tn pl rs rd lp ik kp km kn ln rz it) ∨ (¬ (0 ≤ x ∧ x < 21) ∧ v = some (.inl (-1)) ∧ wd = wMo w ks ss n la su nm np ns sz tp tn pl rs rd lp ik kp km kn ln rz it)) := by
  refine zMet.of (own := RX7) rfl (by decide +kernel) tk_Mo_night fok_Mo cok_Mo (Nat.le_of_ble_eq_true rfl) (fun G hG => ?_)
  refine hG.1 [] 80 _ _ _ _ ?_
  refine ⟨by omega, ?_⟩
  refine hG.2.2.1 (c_Mo_isSum (x := x) (by omega)) ys_Mo_isSum (Or.inl lk_Mo_63) (by decide +kernel) rfl [] (by decide +kernel) rfl rfl rfl (Nat.le_of_ble_eq_true rfl) (fun v w2 hv hl2 => ?_)
  obtain ⟨⟨hc, rfl⟩ | ⟨hc, rfl⟩, rfl⟩ := hv
  · change G _ _ _ (wMo w ks ss n la su nm np ns sz tp tn pl rs rd lp ik kp km kn ln rz it)
    refine hG.1 [] 80 _ _ _ _ ?_
    refine ⟨by omega, fun q => ?_, fun q => absurd q (by omega)⟩
    refine ⟨by omega, fun h1 => ?_, fun h1 => ?_⟩
    · refine ⟨by omega, fun h2 => ?_, fun h2 => ?_⟩
      · refine ⟨by omega, by omega, ?_⟩
        refine hG.2.1 (c_Mo_payers (sum := x) (show 1 ≤ n by omega) hn hS (by omega) hlw hla) yv_Mo_payers lk_Mo_150 (by decide +kernel) rfl rfl [0, 1, 2, 3, 4, 5, 6, 7, 8, 9, 10, 11, 12, 13, 14] (by decide +kernel) rfl rfl rfl (Nat.le_of_ble_eq_true rfl) (fun v w2 hv hl2 => ?_)
        obtain ⟨rfl, rfl⟩ := hv
        change G _ _ _ (wMo w ks ss n la (z_u su sz x) (z_u nm sz n) np ns sz tp tn pl rs rd lp ik kp km kn ln rz it)
        refine hG.1 [71] 80 _ _ _ _ ?_
        refine ⟨by omega, ?_⟩
        refine z_up0 (n := n) (P := fun i : Nat => G 71 [(0, .inr (.inr 0)), (1, .inl x), (2, .inl (i : Int))] [] (wMo w ks ss n la (z_u su sz x) (z_u nm sz n) (z_u np sz (zPyM ss n (la 0) (la 1) x)) (zCp ns ss (9 * sz) i) sz tp tn pl rs rd lp ik kp km kn ln rz it)) ?_ (fun i hi ih => ?_)
        · refine hG.1 [] 80 _ _ _ _ ?_
          refine ⟨by omega, fun q1 => ?_, fun q1 => absurd q1 (by omega)⟩
          exact ⟨trivial, Or.inl ⟨hc, by omega, by omega, by congr 2; omega, rfl⟩⟩
        · refine hG.1 [71] 80 _ _ _ _ ?_
          refine ⟨by omega, fun q1 => absurd q1 (by omega), fun q1 => ?_⟩
          exact ⟨by omega, by omega, ih⟩
      · exact ⟨trivial, Or.inr (Or.inr (Or.inl ⟨hc, by omega, by omega, rfl, rfl⟩))⟩
    · exact ⟨trivial, Or.inr (Or.inl ⟨hc, by omega, rfl, rfl⟩)⟩
  · change G _ _ _ (wMo w ks ss n la su nm np ns sz tp tn pl rs rd lp ik kp km kn ln rz it)
    refine hG.1 [] 80 _ _ _ _ ?_
    refine ⟨by omega, fun q => absurd rfl q, fun q => ?_⟩
    exact ⟨trivial, Or.inr (Or.inr (Or.inr ⟨hc, rfl, rfl⟩))⟩
end M9
