/-! COMPANY (the rest), SUPPER, SHEET -/
theorem c_Fp_isSum {x : Int} (h : -2147483648 ≤ x ∧ x ≤ 2147483647) : zMet m_Fp_isSum [.inl x] [] (fun v w => z_bool (0 ≤ x ∧ x < 21) v ∧ w = []) := by
  refine zMet.of (own := RX6) rfl (by decide +kernel) tk_Fp_isSum fok_Fp cok_Fp (Nat.le_of_ble_eq_true rfl) (fun G hG => ?_)
  refine hG.1 [] 80 _ _ _ _ ?_
  refine ⟨by omega, fun h1 => ?_, fun h1 => ?_⟩
  · exact ⟨Or.inl rfl, Or.inr ⟨by omega, rfl⟩, rfl⟩
  · refine ⟨by omega, fun h2 => ?_, fun h2 => ?_⟩
    · exact ⟨Or.inl rfl, Or.inr ⟨by omega, rfl⟩, rfl⟩
    · exact ⟨Or.inr rfl, Or.inl ⟨by omega, rfl⟩, rfl⟩
section Co2
variable {ks ss : Int → Int} {n : Nat} {who ties : Int}
theorem c_Co_freeGuest (hn : n ≤ 9) (hw : 0 ≤ who ∧ who ≤ 3) (hs : ∀ j : Nat, j < n → 0 ≤ ss j ∧ ss j ≤ 20) :
    zMet m_Co_freeGuest [.inr (.inr 0)] (wCo ks ss n who ties) (fun v w => v = some (.inl (zFree ss n who)) ∧ w = wCo ks ss n who ties) := by
  refine zMet.of (own := RX0) rfl (by decide +kernel) tk_Co_freeGuest fok_Co cok_Co (Nat.le_of_ble_eq_true rfl) (fun G hG => ?_)
  refine hG.1 [29] 80 _ _ _ _ ?_
  refine ⟨by omega, fun h1 => ?_, fun h1 => ?_⟩
  · refine ⟨trivial, ?_, rfl⟩
    rw [zFree, if_neg (fun q => h1 q.1)]
  · refine ⟨by omega, fun h2 => ?_, fun h2 => ?_⟩
    · refine ⟨by omega, ?_⟩
      have key : ∀ d i : Nat, i + d = n → zFindN ss n ((n - 1) / 2) i d = zFree ss n who → G 29 [(0, .inr (.inr 0)), (1, .inl (((n : Int) - 1) / 2)), (2, .inl (i : Int))] [] (wCo ks ss n who ties) := by
        intro d
        induction d with
        | zero =>
          intro i hi he
          refine hG.1 [] 80 _ _ _ _ ?_
          refine ⟨by omega, fun h3 => ?_, fun h3 => absurd h3 (by omega)⟩
          exact ⟨trivial, by rw [← he]; rfl, rfl⟩
        | succ d ih =>
          intro i hi he
          refine hG.1 [] 80 _ _ _ _ ?_
          refine ⟨by omega, fun h3 => absurd h3 (by omega), fun h3 => ?_⟩
          refine hG.2.1 (c_Co_placeOf (show i < n by omega) hn hs) yv_Co_placeOf lk_Co_60 (by decide +kernel) rfl rfl [0, 1, 2] (by decide +kernel) rfl rfl rfl (Nat.le_of_ble_eq_true rfl) (fun v w2 hv hl2 => ?_)
          obtain ⟨rfl, rfl⟩ := hv
          have hle := zPlaceN_le ss i n
          refine hG.1 [29] 80 _ _ _ _ ?_
          refine ⟨by omega, fun h4 => ?_, fun h4 => ?_⟩
          · refine ih (i + 1) (by omega) ?_
            rw [← he]
            show _ = (if zPlaceN ss i n = (n - 1) / 2 then (i : Int) else _)
            rw [if_neg (by omega)]
          · refine ⟨trivial, ?_, rfl⟩
            rw [← he]
            show _ = some (Sum.inl (if zPlaceN ss i n = (n - 1) / 2 then (i : Int) else _))
            rw [if_pos (by omega)]
      exact key n 0 (by omega) (by rw [zFree, if_pos (by omega)])
    · refine ⟨trivial, ?_, rfl⟩
      rw [zFree, if_neg (by omega)]
theorem c_Co_shareOfTwo {g : Nat} {sum : Int} (hg : g < n) (hn : n ≤ 9) (ht : 0 ≤ ties ∧ ties ≤ 2) (hs : ∀ j : Nat, j < n → 0 ≤ ss j ∧ ss j ≤ 20) (hsum : 0 ≤ sum ∧ sum ≤ 20) :
    zMet m_Co_shareOfTwo [.inr (.inr 0), .inl g, .inl sum] (wCo ks ss n who ties) (fun v w => v = some (.inl (zShTwo ss n ties sum g)) ∧ w = wCo ks ss n who ties) := by
  have hsg := hs g hg
  have hog := zOff_in hsg hsum
  refine zMet.of (own := RX0) rfl (by decide +kernel) tk_Co_shareOfTwo fok_Co cok_Co (Nat.le_of_ble_eq_true rfl) (fun G hG => ?_)
  refine hG.1 [] 80 _ _ _ _ ?_
  refine ⟨by omega, ?_⟩
  refine hG.2.2.1 (c_Ja_abs (x := ss g - sum) (by omega)) ys_Ja_abs (Or.inl lk_Co_70) (by decide +kernel) rfl [] (by decide +kernel) rfl rfl rfl (Nat.le_of_ble_eq_true rfl) (fun v w2 hv hl2 => ?_)
  obtain ⟨rfl, rfl⟩ := hv
  refine hG.1 [18] 80 _ _ _ _ ?_
  refine z_up0 (n := n) (P := fun i : Nat => G 18 [(0, .inr (.inr 0)), (1, .inl (g : Int)), (2, .inl sum), (3, .inl (zOff ss sum g)), (4, .inl (zAheadN ss ties sum g i : Int)), (5, .inl (i : Int))] [] (wCo ks ss n who ties)) ?_ (fun i hi ih => ?_)
  · have hle := zAheadN_le ss ties sum g n
    refine hG.1 [] 80 _ _ _ _ ?_
    refine ⟨by omega, fun h1 => ?_, fun h1 => absurd h1 (by omega)⟩
    refine ⟨by omega, fun h2 => ?_, fun h2 => ?_⟩
    · refine ⟨by omega, fun h3 => ?_, fun h3 => ?_⟩
      · refine ⟨trivial, ?_, rfl⟩
        rw [zShTwo, if_neg (by omega), if_neg (by omega)]
      · refine ⟨trivial, ?_, rfl⟩
        rw [zShTwo, if_neg (by omega), if_pos (by omega)]
    · refine ⟨trivial, ?_, rfl⟩
      rw [zShTwo, if_pos (by omega)]
  · have hsi := hs i hi
    have hoi := zOff_in hsi hsum
    have e : zAheadN ss ties sum g (i + 1) = zAheadN ss ties sum g i + (if zOff ss sum g < zOff ss sum i ∨ (zOff ss sum i = zOff ss sum g ∧ ((ties = 2 ∧ g < i) ∨ (ties ≠ 2 ∧ i < g))) then 1 else 0) := rfl
    refine hG.1 [] 80 _ _ _ _ ?_
    refine ⟨by omega, fun h1 => absurd h1 (by omega), fun h1 => ?_⟩
    refine ⟨by omega, ?_⟩
    refine hG.2.2.1 (c_Ja_abs (x := ss i - sum) (by omega)) ys_Ja_abs (Or.inl lk_Co_70) (by decide +kernel) rfl [] (by decide +kernel) rfl rfl rfl (Nat.le_of_ble_eq_true rfl) (fun v w2 hv hl2 => ?_)
    obtain ⟨rfl, rfl⟩ := hv
    -- behind the two flags: the rest of the body
    have tail : ∀ b : Int, (b = 0 ∨ b = 1) → (b = 1 ↔ ((ties = 2 ∧ g < i) ∨ (ties ≠ 2 ∧ i < g))) → G 74 [(0, .inr (.inr 0)), (1, .inl (g : Int)), (2, .inl sum), (3, .inl (zOff ss sum g)), (4, .inl (zAheadN ss ties sum g i : Int)), (5, .inl (i : Int)), (6, .inl (zOff ss sum i))] [.inl b] (wCo ks ss n who ties) := by
      intro b hb hb1
      refine hG.1 [18] 80 _ _ _ _ ?_
      refine ⟨by omega, fun h2 => ?_, fun h2 => ?_⟩
      · rw [if_pos (by omega)] at e
        rw [e] at ih
        exact hG.2.2.2.2.1 (fun q hq => List.mem_append_left _ hq) ih
      · refine ⟨by omega, fun h3 => ?_, fun h3 => ?_⟩
        · rw [if_neg (by omega)] at e
          rw [e] at ih
          exact hG.2.2.2.2.1 (fun q hq => List.mem_append_left _ hq) ih
        · refine ⟨by omega, fun h4 => ?_, fun h4 => ?_⟩
          · rw [if_neg (by omega)] at e
            rw [e] at ih
            exact hG.2.2.2.2.1 (fun q hq => List.mem_append_left _ hq) ih
          · rw [if_pos (by omega)] at e
            rw [e] at ih
            exact hG.2.2.2.2.1 (fun q hq => List.mem_append_left _ hq) ih
    refine hG.1 [74] 80 _ _ _ _ ?_
    refine ⟨by omega, fun h2 => ?_, fun h2 => ?_⟩
    · refine ⟨by omega, fun h3 => ?_, fun h3 => ?_⟩
      · exact tail 0 (by omega) (by omega)
      · exact tail 1 (by omega) (by omega)
    · refine ⟨by omega, fun h3 => ?_, fun h3 => ?_⟩
      · exact tail 0 (by omega) (by omega)
      · exact tail 1 (by omega) (by omega)
end Co2
