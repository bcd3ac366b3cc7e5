/-! SUPPER, SHEET -/
abbrev wSu (w : Int → Int) : zW := [.inl (3, [.inr (.inr 1)]), .inr (0, (21, .inl w))]
abbrev wSu2 (w w' : Int → Int) : zW := [.inl (3, [.inr (.inr 1)]), .inr (0, (21, .inl w)), .inl (3, [.inr (.inr 3)]), .inr (0, (21, .inl w'))]
def zFill (f : Int → Int) (i : Nat) : Int → Int := fun j => if 0 ≤ j ∧ j < (i : Int) then 0 else f j
theorem zFill_put (f : Int → Int) (i : Nat) : z_u (zFill f i) i 0 = zFill f (i + 1) := by
  funext j
  unfold z_u zFill
  by_cases h : j = (i : Int)
  · subst h; rw [if_pos rfl, if_pos (by omega)]
  · rw [if_neg h]
    by_cases h2 : 0 ≤ j ∧ j < (i : Int)
    · rw [if_pos h2, if_pos (by omega)]
    · rw [if_neg h2, if_neg (by omega)]
theorem zFill_0 (f : Int → Int) : zFill f 0 = f := by
  funext j; unfold zFill; rw [if_neg (by omega)]
def zSumN (f : Int → Int) : Nat → Int
  | 0 => 0
  | k + 1 => zSumN f k + f k
def zPosN (f : Int → Int) : Nat → Nat
  | 0 => 0
  | k + 1 => zPosN f k + (if 0 < f k then 1 else 0)
def zWeiN (f : Int → Int) : Nat → Int
  | 0 => 0
  | k + 1 => zWeiN f k + k * f k
theorem zSumN_in {f : Int → Int} : ∀ {n : Nat}, (∀ j : Nat, j < n → 0 ≤ f j ∧ f j ≤ 99) → 0 ≤ zSumN f n ∧ zSumN f n ≤ 99 * (n : Int)
  | 0, _ => by simp [zSumN]
  | n + 1, h => by
    have h1 := zSumN_in (n := n) (fun j hj => h j (by omega))
    have h2 := h n (by omega)
    unfold zSumN; omega
theorem zWeiN_in {f : Int → Int} : ∀ {n : Nat}, n ≤ 21 → (∀ j : Nat, j < n → 0 ≤ f j ∧ f j ≤ 99) → 0 ≤ zWeiN f n ∧ zWeiN f n ≤ 1980 * (n : Int)
  | 0, _, _ => by simp [zWeiN]
  | n + 1, hn, h => by
    have h1 := zWeiN_in (n := n) (by omega) (fun j hj => h j (by omega))
    have h2 := h n (by omega)
    have h3 : 0 ≤ (n : Int) * f n := Int.mul_nonneg (by omega) h2.1
    have h4 : (n : Int) * f n ≤ 20 * 99 := Int.mul_le_mul (by omega) h2.2 h2.1 (by omega)
    unfold zWeiN; omega
theorem zWeiN_sum {f : Int → Int} : ∀ {n : Nat}, n ≤ 21 → (∀ j : Nat, j < n → 0 ≤ f j ∧ f j ≤ 99) → zWeiN f n ≤ 20 * zSumN f n
  | 0, _, _ => by simp [zWeiN, zSumN]
  | n + 1, hn, h => by
    have h1 := zWeiN_sum (n := n) (by omega) (fun j hj => h j (by omega))
    have h2 := h n (by omega)
    have h4 : (n : Int) * f n ≤ 20 * f n := Int.mul_le_mul_of_nonneg_right (by omega) h2.1
    unfold zWeiN zSumN; omega
def zMean (w : Int → Int) : Int := if zSumN w 21 = 0 then 0 else zWeiN w 21 / zSumN w 21
theorem zMean_in {w : Int → Int} (hw : ∀ j : Nat, j < 21 → 0 ≤ w j ∧ w j ≤ 99) : 0 ≤ zMean w ∧ zMean w ≤ 20 := by
  have h1 := zSumN_in hw
  have h2 := zWeiN_in (Nat.le_refl 21) hw
  have h3 := zWeiN_sum (Nat.le_refl 21) hw
  unfold zMean; split
  · omega
  · exact ⟨Int.ediv_nonneg h2.1 h1.1, Int.ediv_le_of_le_mul (by omega) h3⟩
section Su
variable {w : Int → Int}
theorem c_Su_weightOf {x : Int} (h : 0 ≤ x ∧ x < 21) : zMet m_Su_weightOf [.inr (.inr 0), .inl x] (wSu w) (fun v w2 => v = some (.inl (w x)) ∧ w2 = wSu w) := by
  refine zMet.of (own := RX3) rfl (by decide +kernel) tk_Su_weightOf fok_Su cok_Su (Nat.le_of_ble_eq_true rfl) (fun G hG => ?_)
  refine hG.1 [] 80 _ _ _ _ ?_
  refine hG.2.2.1 (c_Fp_isSum (x := x) (by omega)) ys_Fp_isSum lk_Su_15 (by decide +kernel) rfl [] (by decide +kernel) rfl rfl rfl (Nat.le_of_ble_eq_true rfl) (fun v w2 hv hl2 => ?_)
  obtain ⟨⟨hc, rfl⟩ | ⟨hc, rfl⟩, rfl⟩ := hv
  · refine hG.1 [] 80 _ _ _ _ ?_
    refine ⟨by omega, fun h1 => absurd h1 (by omega), fun h1 => ?_⟩
    exact ⟨by omega, trivial, rfl, rfl⟩
  · exact absurd h hc
theorem c_Su_putWeight {x v0 : Int} (h : 0 ≤ x ∧ x < 21) : zMet m_Su_putWeight [.inr (.inr 0), .inl x, .inl v0] (wSu w) (fun v w2 => v = none ∧ w2 = wSu (z_u w x v0)) := by
  refine zMet.of (own := RX3) rfl (by decide +kernel) tk_Su_putWeight fok_Su cok_Su (Nat.le_of_ble_eq_true rfl) (fun G hG => ?_)
  refine hG.1 [] 80 _ _ _ _ ?_
  refine hG.2.2.1 (c_Fp_isSum (x := x) (by omega)) ys_Fp_isSum lk_Su_15 (by decide +kernel) rfl [] (by decide +kernel) rfl rfl rfl (Nat.le_of_ble_eq_true rfl) (fun v w2 hv hl2 => ?_)
  obtain ⟨⟨hc, rfl⟩ | ⟨hc, rfl⟩, rfl⟩ := hv
  · refine hG.1 [] 80 _ _ _ _ ?_
    refine ⟨by omega, fun h1 => absurd h1 (by omega), fun h1 => ?_⟩
    exact ⟨by omega, trivial, rfl, rfl⟩
  · exact absurd h hc
theorem c_Su_clear : zMet m_Su_clear [.inr (.inr 0)] (wSu w) (fun v w2 => v = none ∧ w2 = wSu (zFill w 21)) := by
  refine zMet.of (own := RX3) rfl (by decide +kernel) tk_Su_clear fok_Su cok_Su (Nat.le_of_ble_eq_true rfl) (fun G hG => ?_)
  refine hG.1 [2] 80 _ _ _ _ ?_
  suffices L : G 2 [(0, .inr (.inr 0)), (1, .inl ((0 : Nat) : Int))] [] (wSu (zFill w 0)) by
    rw [zFill_0] at L; exact L
  refine z_up0 (n := 21) (P := fun i : Nat => G 2 [(0, .inr (.inr 0)), (1, .inl (i : Int))] [] (wSu (zFill w i))) ?_ (fun i hi ih => ?_)
  · refine hG.1 [] 80 _ _ _ _ ?_
    refine ⟨by omega, fun h1 => ?_, fun h1 => absurd h1 (by omega)⟩
    exact ⟨trivial, rfl, rfl⟩
  · refine hG.1 [2] 80 _ _ _ _ ?_
    refine ⟨by omega, fun h1 => absurd h1 (by omega), fun h1 => ?_⟩
    rw [← zFill_put] at ih
    exact ⟨by omega, ih⟩
theorem c_Su_copyFrom {w' : Int → Int} : zMet m_Su_copyFrom [.inr (.inr 0), .inr (.inr 2)] (wSu2 w w') (fun v w2 => v = none ∧ w2 = wSu2 (z_cpy w' w 21) w') := by
  refine zMet.of (own := RX3) rfl (by decide +kernel) tk_Su_copyFrom fok_Su cok_Su (Nat.le_of_ble_eq_true rfl) (fun G hG => ?_)
  refine hG.1 [] 80 _ _ _ _ ?_
  refine hG.2.2.2.1 lk_Su_19 ⟨by decide, by decide⟩ rfl rfl (by omega) rfl (Nat.le_of_ble_eq_true rfl) ?_
  refine hG.1 [] 80 _ _ _ _ ?_
  exact ⟨trivial, rfl, rfl⟩
theorem c_Su_together : zMet m_Su_together [.inr (.inr 0)] (wSu w) (fun v w2 => v = some (.inl (zSumN w 21)) ∧ w2 = wSu w) := by
  refine zMet.of (own := RX3) rfl (by decide +kernel) tk_Su_together fok_Su cok_Su (Nat.le_of_ble_eq_true rfl) (fun G hG => ?_)
  refine hG.1 [4] 80 _ _ _ _ ?_
  refine z_up0 (n := 21) (P := fun i : Nat => G 4 [(0, .inr (.inr 0)), (1, .inl (zSumN w i)), (2, .inl (i : Int))] [] (wSu w)) ?_ (fun i hi ih => ?_)
  · refine hG.1 [] 80 _ _ _ _ ?_
    refine ⟨by omega, fun h1 => ?_, fun h1 => absurd h1 (by omega)⟩
    exact ⟨trivial, rfl, rfl⟩
  · refine hG.1 [4] 80 _ _ _ _ ?_
    refine ⟨by omega, fun h1 => absurd h1 (by omega), fun h1 => ?_⟩
    exact ⟨by omega, ih⟩
theorem c_Su_sumsOfWeight (hw : ∀ j : Nat, j < 21 → 0 ≤ w j ∧ w j ≤ 99) : zMet m_Su_sumsOfWeight [.inr (.inr 0)] (wSu w) (fun v w2 => v = some (.inl (zPosN w 21 : Int)) ∧ w2 = wSu w) := by
  refine zMet.of (own := RX3) rfl (by decide +kernel) tk_Su_sumsOfWeight fok_Su cok_Su (Nat.le_of_ble_eq_true rfl) (fun G hG => ?_)
  refine hG.1 [4] 80 _ _ _ _ ?_
  refine z_up0 (n := 21) (P := fun i : Nat => G 4 [(0, .inr (.inr 0)), (1, .inl (zPosN w i : Int)), (2, .inl (i : Int))] [] (wSu w)) ?_ (fun i hi ih => ?_)
  · refine hG.1 [] 80 _ _ _ _ ?_
    refine ⟨by omega, fun h1 => ?_, fun h1 => absurd h1 (by omega)⟩
    exact ⟨trivial, rfl, rfl⟩
  · have hwi := hw i hi
    have e : zPosN w (i + 1) = zPosN w i + (if 0 < w i then 1 else 0) := rfl
    refine hG.1 [4] 80 _ _ _ _ ?_
    refine ⟨by omega, fun h1 => absurd h1 (by omega), fun h1 => ?_⟩
    refine ⟨by omega, by omega, fun h2 => ?_, fun h2 => ?_⟩
    · rw [e, if_neg (by omega)] at ih
      exact ih
    · rw [e, if_pos h2] at ih
      exact ih
theorem c_Su_weighed : zMet m_Su_weighed [.inr (.inr 0)] (wSu w) (fun v w2 => v = some (.inl (zWeiN w 21)) ∧ w2 = wSu w) := by
  refine zMet.of (own := RX3) rfl (by decide +kernel) tk_Su_weighed fok_Su cok_Su (Nat.le_of_ble_eq_true rfl) (fun G hG => ?_)
  refine hG.1 [4] 80 _ _ _ _ ?_
  refine z_up0 (n := 21) (P := fun i : Nat => G 4 [(0, .inr (.inr 0)), (1, .inl (zWeiN w i)), (2, .inl (i : Int))] [] (wSu w)) ?_ (fun i hi ih => ?_)
  · refine hG.1 [] 80 _ _ _ _ ?_
    refine ⟨by omega, fun h1 => ?_, fun h1 => absurd h1 (by omega)⟩
    exact ⟨trivial, rfl, rfl⟩
  · refine hG.1 [4] 80 _ _ _ _ ?_
    refine ⟨by omega, fun h1 => absurd h1 (by omega), fun h1 => ?_⟩
    exact ⟨by omega, ih⟩
theorem c_Su_meanSum (hw : ∀ j : Nat, j < 21 → 0 ≤ w j ∧ w j ≤ 99) : zMet m_Su_meanSum [.inr (.inr 0)] (wSu w) (fun v w2 => v = some (.inl (zMean w)) ∧ w2 = wSu w) := by
  have h1 := zSumN_in hw
  have h2 := zWeiN_in (Nat.le_refl 21) hw
  refine zMet.of (own := RX3) rfl (by decide +kernel) tk_Su_meanSum fok_Su cok_Su (Nat.le_of_ble_eq_true rfl) (fun G hG => ?_)
  refine hG.1 [] 80 _ _ _ _ ?_
  refine hG.2.1 (c_Su_together ) yv_Su_together lk_Su_25 (by decide +kernel) rfl rfl [0, 1] (by decide +kernel) rfl rfl rfl (Nat.le_of_ble_eq_true rfl) (fun v w2 hv hl2 => ?_)
  obtain ⟨rfl, rfl⟩ := hv
  refine hG.1 [] 80 _ _ _ _ ?_
  refine ⟨by omega, fun h3 => ?_, fun h3 => ?_⟩
  · refine hG.2.1 (c_Su_weighed ) yv_Su_weighed lk_Su_29 (by decide +kernel) rfl rfl [0, 1] (by decide +kernel) rfl rfl rfl (Nat.le_of_ble_eq_true rfl) (fun v w2 hv hl2 => ?_)
    obtain ⟨rfl, rfl⟩ := hv
    refine hG.1 [] 80 _ _ _ _ ?_
    exact ⟨by omega, trivial, by rw [zMean, if_neg h3], rfl⟩
  · exact ⟨trivial, by rw [zMean, if_pos h3], rfl⟩
end Su
abbrev wSh (it : Int → Int) (lane size : Int) : zW := [.inl (2, [.inr (.inr 1), .inl lane, .inl size]), .inr (0, (24, .inr (.inl it)))]
def zNar (lane v : Int) : Int := if lane = 0 then v.bmod 65536 else if lane = 1 then v.bmod 4294967296 else v
def zRef (lane size asked fr n : Int) : Int := if size = -1 then -11 else if asked ≠ lane then -12 else if fr < 0 ∨ size - n < fr then -13 else 0
/-- the weights of a row together, -1 behind one that is none -/
def zWtN (it : Int → Int) (fr : Int) : Nat → Nat → Int → Int
  | _, 0, acc => acc
  | i, d + 1, acc => if it (fr + i) < 0 ∨ 99 < it (fr + i) then -1 else zWtN it fr (i + 1) d (acc + it (fr + i))
section Sh
variable {it : Int → Int} {lane size : Int}
theorem c_Sh_isMissing (hz : -1 ≤ size ∧ size ≤ 24) : zMet m_Sh_isMissing [.inr (.inr 0)] (wSh it lane size) (fun v w => z_bool (size = -1) v ∧ w = wSh it lane size) := by
  refine zMet.of (own := RX2) rfl (by decide +kernel) tk_Sh_isMissing fok_Sh cok_Sh (Nat.le_of_ble_eq_true rfl) (fun G hG => ?_)
  refine hG.1 [] 80 _ _ _ _ ?_
  refine ⟨by omega, fun h1 => ?_, fun h1 => ?_⟩
  · exact ⟨Or.inl rfl, Or.inr ⟨h1, rfl⟩, rfl⟩
  · exact ⟨Or.inr rfl, Or.inl ⟨h1, rfl⟩, rfl⟩
theorem c_Sh_size : zMet m_Sh_size [.inr (.inr 0)] (wSh it lane size) (fun v w => v = some (.inl size) ∧ w = wSh it lane size) := by
  refine zMet.of (own := RX2) rfl (by decide +kernel) tk_Sh_size fok_Sh cok_Sh (Nat.le_of_ble_eq_true rfl) (fun G hG => ?_)
  refine hG.1 [] 80 _ _ _ _ ?_
  exact ⟨trivial, rfl, rfl⟩
theorem c_Sh_end : zMet m_Sh_end [.inr (.inr 0)] (wSh it lane size) (fun v w => v = none ∧ w = wSh it lane (-1)) := by
  refine zMet.of (own := RX2) rfl (by decide +kernel) tk_Sh_end fok_Sh cok_Sh (Nat.le_of_ble_eq_true rfl) (fun G hG => ?_)
  refine hG.1 [] 80 _ _ _ _ ?_
  exact ⟨trivial, rfl, rfl⟩
theorem c_Sh_begin {l' n : Int} : zMet m_Sh_begin [.inr (.inr 0), .inl l', .inl n] (wSh it lane size) (fun v w => v = none ∧ w = wSh (zFill it 24) l' n) := by
  refine zMet.of (own := RX2) rfl (by decide +kernel) tk_Sh_begin fok_Sh cok_Sh (Nat.le_of_ble_eq_true rfl) (fun G hG => ?_)
  refine hG.1 [12] 80 _ _ _ _ ?_
  suffices L : G 12 [(0, .inr (.inr 0)), (1, .inl l'), (2, .inl n), (3, .inl ((0 : Nat) : Int))] [] (wSh (zFill it 0) l' n) by
    rw [zFill_0] at L; exact L
  refine z_up0 (n := 24) (P := fun i : Nat => G 12 [(0, .inr (.inr 0)), (1, .inl l'), (2, .inl n), (3, .inl (i : Int))] [] (wSh (zFill it i) l' n)) ?_ (fun i hi ih => ?_)
  · refine hG.1 [] 80 _ _ _ _ ?_
    refine ⟨by omega, fun h1 => ?_, fun h1 => absurd h1 (by omega)⟩
    exact ⟨trivial, rfl, rfl⟩
  · refine hG.1 [12] 80 _ _ _ _ ?_
    refine ⟨by omega, fun h1 => absurd h1 (by omega), fun h1 => ?_⟩
    rw [← zFill_put] at ih
    exact ⟨by omega, ih⟩
theorem c_Sh_refusal {a f n : Int} (hz : -1 ≤ size ∧ size ≤ 24) (hl : 0 ≤ lane ∧ lane ≤ 2) (ha : -2147483648 ≤ a ∧ a ≤ 2147483647) (hf : -2147483648 ≤ f ∧ f ≤ 2147483647) (hn : 0 ≤ n ∧ n ≤ 1000) :
    zMet m_Sh_refusal [.inr (.inr 0), .inl a, .inl f, .inl n] (wSh it lane size) (fun v w => v = some (.inl (zRef lane size a f n)) ∧ w = wSh it lane size) := by
  refine zMet.of (own := RX2) rfl (by decide +kernel) tk_Sh_refusal fok_Sh cok_Sh (Nat.le_of_ble_eq_true rfl) (fun G hG => ?_)
  refine hG.1 [] 80 _ _ _ _ ?_
  refine hG.2.1 (c_Sh_isMissing hz) yv_Sh_isMissing lk_Sh_22 (by decide +kernel) rfl rfl [0, 1] (by decide +kernel) rfl rfl rfl (Nat.le_of_ble_eq_true rfl) (fun v w2 hv hl2 => ?_)
  obtain ⟨⟨hc, rfl⟩ | ⟨hc, rfl⟩, rfl⟩ := hv
  · refine hG.1 [] 80 _ _ _ _ ?_
    refine ⟨by omega, fun h1 => absurd h1 (by omega), fun h1 => ?_⟩
    exact ⟨trivial, by rw [zRef, if_pos hc], rfl⟩
  · refine hG.1 [] 80 _ _ _ _ ?_
    refine ⟨by omega, fun h1 => ?_, fun h1 => absurd rfl h1⟩
    refine ⟨by omega, fun h2 => ?_, fun h2 => ?_⟩
    · refine ⟨by omega, fun h3 => ?_, fun h3 => ?_⟩
      · exact ⟨trivial, by rw [zRef, if_neg hc, if_neg (by omega), if_pos (by omega)], rfl⟩
      · refine ⟨by omega, fun h4 => ?_, fun h4 => ?_⟩
        · exact ⟨trivial, by rw [zRef, if_neg hc, if_neg (by omega), if_neg (by omega)], rfl⟩
        · exact ⟨trivial, by rw [zRef, if_neg hc, if_neg (by omega), if_pos (by omega)], rfl⟩
    · exact ⟨trivial, by rw [zRef, if_neg hc, if_pos (by omega)], rfl⟩
theorem c_Sh_itemAt {i : Int} (hz : size ≤ 24) (hi : 0 ≤ i ∧ i < size) : zMet m_Sh_itemAt [.inr (.inr 0), .inl i] (wSh it lane size) (fun v w => v = some (.inr (.inl (it i))) ∧ w = wSh it lane size) := by
  refine zMet.of (own := RX2) rfl (by decide +kernel) tk_Sh_itemAt fok_Sh cok_Sh (Nat.le_of_ble_eq_true rfl) (fun G hG => ?_)
  refine hG.1 [] 80 _ _ _ _ ?_
  refine ⟨by omega, fun h1 => absurd h1 (by omega), fun h1 => ?_⟩
  refine ⟨by omega, fun h2 => absurd h2 (by omega), fun h2 => ?_⟩
  exact ⟨by omega, trivial, rfl, rfl⟩
theorem c_Sh_narrowed {v0 : Int} (hl : 0 ≤ lane ∧ lane ≤ 2) : zMet m_Sh_narrowed [.inr (.inr 0), .inr (.inl v0)] (wSh it lane size) (fun v w => v = some (.inr (.inl (zNar lane v0))) ∧ w = wSh it lane size) := by
  refine zMet.of (own := RX2) rfl (by decide +kernel) tk_Sh_narrowed fok_Sh cok_Sh (Nat.le_of_ble_eq_true rfl) (fun G hG => ?_)
  refine hG.1 [] 80 _ _ _ _ ?_
  refine ⟨by omega, fun h1 => ?_, fun h1 => ?_⟩
  · refine ⟨by omega, fun h2 => ?_, fun h2 => ?_⟩
    · exact ⟨trivial, by rw [zNar, if_neg h1, if_neg h2], rfl⟩
    · refine Or.inr ⟨⟨by have := Int.le_bmod (x := v0) (m := 4294967296) (by omega); omega, by have := Int.bmod_lt (x := v0) (m := 4294967296) (by omega); omega⟩, ?_⟩
      exact ⟨trivial, by rw [zNar, if_neg h1, if_pos h2], rfl⟩
  · refine Or.inl ⟨⟨by have := Int.le_bmod (x := v0) (m := 65536) (by omega); omega, by have := Int.bmod_lt (x := v0) (m := 65536) (by omega); omega⟩, ?_⟩
    exact ⟨trivial, by rw [zNar, if_pos h1], rfl⟩
theorem c_Sh_put {i v0 : Int} (hz : size ≤ 24) (hl : 0 ≤ lane ∧ lane ≤ 2) (hi : 0 ≤ i ∧ i < size) : zMet m_Sh_put [.inr (.inr 0), .inl i, .inr (.inl v0)] (wSh it lane size) (fun v w => v = none ∧ w = wSh (z_u it i (zNar lane v0)) lane size) := by
  refine zMet.of (own := RX2) rfl (by decide +kernel) tk_Sh_put fok_Sh cok_Sh (Nat.le_of_ble_eq_true rfl) (fun G hG => ?_)
  refine hG.1 [] 80 _ _ _ _ ?_
  refine ⟨by omega, fun h1 => absurd h1 (by omega), fun h1 => ?_⟩
  refine ⟨by omega, fun h2 => absurd h2 (by omega), fun h2 => ?_⟩
  refine hG.2.1 (c_Sh_narrowed hl) yv_Sh_narrowed lk_Sh_26 (by decide +kernel) rfl rfl [0, 1] (by decide +kernel) rfl rfl rfl (Nat.le_of_ble_eq_true rfl) (fun v w2 hv hl2 => ?_)
  obtain ⟨rfl, rfl⟩ := hv
  refine hG.1 [] 80 _ _ _ _ ?_
  exact ⟨by omega, trivial, rfl, rfl⟩
theorem c_Sh_weightsTogether {f : Int} {n : Nat} (hz : size ≤ 24) (hf : 0 ≤ f ∧ f + n ≤ size) (hq : ∀ j : Int, -9223372036854775808 ≤ it j ∧ it j ≤ 9223372036854775807) :
    zMet m_Sh_weightsTogether [.inr (.inr 0), .inl f, .inl n] (wSh it lane size) (fun v w => v = some (.inr (.inl (zWtN it f 0 n 0))) ∧ w = wSh it lane size) := by
  refine zMet.of (own := RX2) rfl (by decide +kernel) tk_Sh_weightsTogether fok_Sh cok_Sh (Nat.le_of_ble_eq_true rfl) (fun G hG => ?_)
  refine hG.1 [5] 80 _ _ _ _ ?_
  have key : ∀ d i : Nat, i + d = n → ∀ acc : Int, zWtN it f i d acc = zWtN it f 0 n 0 → G 5 [(0, .inr (.inr 0)), (1, .inl f), (2, .inl (n : Int)), (3, .inr (.inl acc)), (5, .inl (i : Int))] [] (wSh it lane size) := by
    intro d
    induction d with
    | zero =>
      intro i hi acc he
      refine hG.1 [] 80 _ _ _ _ ?_
      refine ⟨by omega, fun h1 => ?_, fun h1 => absurd h1 (by omega)⟩
      exact ⟨trivial, by rw [← he]; rfl, rfl⟩
    | succ d ih =>
      intro i hi acc he
      have hqi := hq (f + i)
      refine hG.1 [] 80 _ _ _ _ ?_
      refine ⟨by omega, fun h1 => absurd h1 (by omega), fun h1 => ?_⟩
      refine hG.2.1 (c_Sh_itemAt (i := f + i) hz (by omega)) yv_Sh_itemAt lk_Sh_30 (by decide +kernel) rfl rfl [0, 1] (by decide +kernel) rfl rfl rfl (Nat.le_of_ble_eq_true rfl) (fun v w2 hv hl2 => ?_)
      obtain ⟨rfl, rfl⟩ := hv
      have he2 : (if it (f + i) < 0 ∨ 99 < it (f + i) then -1 else zWtN it f (i + 1) d (acc + it (f + i))) = zWtN it f 0 n 0 := he
      refine hG.1 [5] 80 _ _ _ _ ?_
      refine ⟨by omega, fun h2 => ?_, fun h2 => ?_⟩
      · exact ⟨trivial, by rw [← he2, if_pos (by omega)], rfl⟩
      · refine ⟨by omega, fun h3 => ?_, fun h3 => ?_⟩
        · rw [if_neg (by omega)] at he2
          exact hG.2.2.2.2.1 (fun q hq => List.mem_append_left _ hq) (ih (i + 1) (by omega) _ he2)
        · exact ⟨trivial, by rw [← he2, if_pos (by omega)], rfl⟩
  exact key n 0 (by omega) 0 rfl
end Sh
