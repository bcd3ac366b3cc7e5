/-! THE REFERENCE: the farthest, the payers -/
def zOne (ties : Int) (m : Nat) : Int := if ties = 2 then zLst (fun k => decide (zBit (m : Int) k)) (z_and (m : Int) (-(m : Int))) 9 else z_and (m : Int) (-(m : Int))
def zFm (ss : Int → Int) (n : Nat) (ties near sum : Int) (p : Nat → Bool) : Int := if ties = 1 then ((zFar near ss sum p n).2 : Int) else zOne ties (zFar near ss sum p n).2
theorem z_allB : ∀ n, n < 10 → ∀ k, k < 9 → (zBit (1 * 2 ^ ((n : Nat) : Int).toNat - 1) k ↔ decide (k < n) = true) := by decide +kernel
theorem z_butB : ∀ n, n < 10 → ∀ j, j < 9 → ∀ k, k < 9 → (zBit (z_and (1 * 2 ^ ((n : Nat) : Int).toNat - 1) (z_xor (1 * 2 ^ ((j : Nat) : Int).toNat) (-1))) k ↔ decide (k < n ∧ k ≠ j) = true) := by decide +kernel
theorem z_allR : ∀ n, n < 10 → (-2147483648 ≤ (1 * 2 ^ ((n : Nat) : Int).toNat - 1 : Int) ∧ (1 * 2 ^ ((n : Nat) : Int).toNat - 1 : Int) ≤ 2147483647) := by decide +kernel
theorem zFst_pos {ss : Int → Int} {ties sum : Int} {p : Nat → Bool} {k : Nat} (hk : p k = true) : ∀ n, k < n → 0 ≤ zFst ss ties sum p n
  | 0, h => absurd h (Nat.not_lt_zero _)
  | m + 1, h => by
    unfold zFst
    split
    · omega
    · rename_i hh
      by_cases hkm : k = m
      · subst hkm
        have : ¬ zFst ss ties sum p k < 0 := fun z => hh ⟨hk, Or.inl z⟩
        omega
      · exact zFst_pos hk m (by omega)
noncomputable def zPyM (ss : Int → Int) (n : Nat) (who ties sum : Int) : Int :=
  if who = 2 then (if n = 1 then 1 * 2 ^ (zFst ss ties sum (fun k => decide (k < n)) n).toNat
    else z_or (1 * 2 ^ (zFst ss ties sum (fun k => decide (k < n)) n).toNat) (1 * 2 ^ (zFst ss ties sum (fun k => decide (k < n ∧ k ≠ (zFst ss ties sum (fun k => decide (k < n)) n).toNat)) n).toNat))
  else if who = 3 ∧ 1 < n then zFm ss n ties 0 sum (fun k => decide (k < n ∧ k ≠ (zMid ss n n).toNat))
  else zFm ss n ties (if who = 1 then 1 else 0) sum (fun k => decide (k < n))
theorem zMid_lt {ss : Int → Int} {n : Nat} (h : 1 ≤ n) : zMid ss n n < (n : Int) := by
  obtain ⟨m, rfl⟩ := Nat.exists_eq_add_of_le h
  have hm := zMid_in (ss := ss) (n := 1 + m) m
  have e : zMid ss (1 + m) (m + 1) = if (zPlaceN ss m (1 + m) : Int) = (((1 + m : Nat) : Int) - 1) / 2 then (m : Int) else zMid ss (1 + m) m := rfl
  rw [Nat.add_comm m 1] at e
  rw [e]; split <;> omega
section M4
variable {w ks ss : Int → Int} {n : Nat} {la su nm np ns : Int → Int} {sz : Nat} {tp : Int → Int} {tn pl : Nat} {rs : Int} {rd : Int → Int} {lp ik : Int} {kp : Int → Int} {km kn : Int} {ln rz it : Int → Int}
theorem c_Mo_farthest {x sum near : Int} {p : Nat → Bool} (hx : -2147483648 ≤ x ∧ x ≤ 2147483647) (hp : ∀ k, k < 9 → (zBit x k ↔ p k = true)) (hn : n ≤ 9) (hS : zOkS ss n) (hs : 0 ≤ sum ∧ sum ≤ 20) (hla : 0 ≤ la 1 ∧ la 1 ≤ 2) (hz : near = 0 ∨ near = 1) :
    zMet m_Mo_farthest [.inr (.inr 0), .inl x, .inl sum, .inl near] (wMo w ks ss n la su nm np ns sz tp tn pl rs rd lp ik kp km kn ln rz it) (fun v wd => v = some (.inl (zFm ss n (la 1) near sum p)) ∧ wd = wMo w ks ss n la su nm np ns sz tp tn pl rs rd lp ik kp km kn ln rz it) := by
  refine zMet.of (own := RX7) rfl (by decide +kernel) tk_Mo_farthest fok_Mo cok_Mo (Nat.le_of_ble_eq_true rfl) (fun G hG => ?_)
  refine hG.1 [9] 80 _ _ _ _ ?_
  refine z_up0 (n := n) (P := fun i : Nat => G 9 [(0, .inr (.inr 0)), (1, .inl x), (2, .inl sum), (3, .inl near), (4, .inl (zFar near ss sum p i).1), (5, .inl ((zFar near ss sum p i).2 : Int)), (6, .inl (i : Int))] [] (wMo w ks ss n la su nm np ns sz tp tn pl rs rd lp ik kp km kn ln rz it)) ?_ (fun i hi ih => ?_)
  · have hf := zFar_in (near := near) (p := p) hS hs n (Nat.le_refl n)
    have hf2 : 2 ^ n ≤ 2 ^ 9 := Nat.pow_le_pow_right (by omega) hn
    have e9 : 2 ^ 9 = 512 := by decide
    refine hG.1 [] 80 _ _ _ _ ?_
    refine ⟨by omega, fun q => ?_, fun q => absurd q (by omega)⟩
    refine ⟨by omega, by omega, fun h1 => ?_, fun h1 => ?_⟩
    · refine hG.2.1 (c_Mo_oneOf (x := ((zFar near ss sum p n).2 : Int)) (p := fun k => decide (zBit ((zFar near ss sum p n).2 : Int) k)) (by omega) (fun k _ => (decide_eq_true_iff).symm) hla) yv_Mo_oneOf lk_Mo_136 (by decide +kernel) rfl rfl [0, 1, 2, 3, 4, 5, 6, 7, 8, 9, 10, 11, 12, 13, 14] (by decide +kernel) rfl rfl rfl (Nat.le_of_ble_eq_true rfl) (fun v w2 hv hl2 => ?_)
      obtain ⟨rfl, rfl⟩ := hv
      change G _ _ _ (wMo w ks ss n la su nm np ns sz tp tn pl rs rd lp ik kp km kn ln rz it)
      refine hG.1 [] 80 _ _ _ _ ?_
      exact ⟨trivial, by rw [zFm, if_neg h1, zOne], rfl⟩
    · exact ⟨trivial, by rw [zFm, if_pos h1], rfl⟩
  · have hf := zFar_in (near := near) (p := p) hS hs i (by omega)
    have hb := z_bits1 i (by omega) (zFar near ss sum p i).2 hf.2
    have h2 := z_p2 i (by omega)
    have hd := zDst_in (near := near) (hS i hi) hs
    have e : zFar near ss sum p (i + 1) = if p i = true then (if (zFar near ss sum p i).1 < zDst near ss sum i then (zDst near ss sum i, 2 ^ i) else if zDst near ss sum i = (zFar near ss sum p i).1 then ((zFar near ss sum p i).1, (zFar near ss sum p i).2 + 2 ^ i) else zFar near ss sum p i) else zFar near ss sum p i := rfl
    refine hG.1 [] 80 _ _ _ _ ?_
    refine ⟨by omega, fun q => absurd q (by omega), fun q => ?_⟩
    refine hG.2.2.1 (c_Mo_has (x := x) (g := i) hx (by omega)) ys_Mo_has (Or.inl lk_Mo_129) (by decide +kernel) rfl [] (by decide +kernel) rfl rfl rfl (Nat.le_of_ble_eq_true rfl) (fun v w2 hv hl2 => ?_)
    obtain ⟨⟨hc, rfl⟩ | ⟨hc, rfl⟩, rfl⟩ := hv
    · change G _ _ _ (wMo w ks ss n la su nm np ns sz tp tn pl rs rd lp ik kp km kn ln rz it)
      rw [e, if_pos ((hp i (by omega)).mp hc)] at ih
      have tail : G 51 [(0, .inr (.inr 0)), (1, .inl x), (2, .inl sum), (3, .inl near), (4, .inl (zFar near ss sum p i).1), (5, .inl ((zFar near ss sum p i).2 : Int)), (6, .inl (i : Int))] [.inl (zDst near ss sum i)] (wMo w ks ss n la su nm np ns sz tp tn pl rs rd lp ik kp km kn ln rz it) := by
        refine hG.1 [9] 80 _ _ _ _ ?_
        refine ⟨by omega, fun q1 => ?_, fun q1 => ?_⟩
        · refine ⟨by omega, fun q2 => ?_, fun q2 => ?_⟩
          · rw [if_neg (by omega), if_neg q2] at ih
            refine ⟨by omega, fun q3 => ?_, fun q3 => absurd q3 (by omega)⟩
            exact hG.2.2.2.2.1 (fun q hq => List.mem_append_left _ hq) ih
          · rw [if_neg (by omega), if_pos q2] at ih
            have ih2 : G 9 [(0, .inr (.inr 0)), (1, .inl x), (2, .inl sum), (3, .inl near), (4, .inl (zFar near ss sum p i).1), (5, .inl (((zFar near ss sum p i).2 + 2 ^ i : Nat) : Int)), (6, .inl ((i + 1 : Nat) : Int))] [] (wMo w ks ss n la su nm np ns sz tp tn pl rs rd lp ik kp km kn ln rz it) := ih
            rw [← hb] at ih2
            refine ⟨by omega, by omega, fun q3 => ?_, fun q3 => absurd q3 (by omega)⟩
            exact hG.2.2.2.2.1 (fun q hq => List.mem_append_left _ hq) ih2
        · rw [if_pos q1] at ih
          have ih2 : G 9 [(0, .inr (.inr 0)), (1, .inl x), (2, .inl sum), (3, .inl near), (4, .inl (zDst near ss sum i)), (5, .inl ((2 ^ i : Nat) : Int)), (6, .inl ((i + 1 : Nat) : Int))] [] (wMo w ks ss n la su nm np ns sz tp tn pl rs rd lp ik kp km kn ln rz it) := ih
          rw [← h2] at ih2
          refine ⟨by omega, by omega, fun q3 => absurd q3 (by omega), fun q3 => ?_⟩
          exact hG.2.2.2.2.1 (fun q hq => List.mem_append_left _ hq) ih2
      refine hG.1 [51] 80 _ _ _ _ ?_
      refine ⟨by omega, fun q => absurd q (by omega), fun q => ?_⟩
      refine ⟨by omega, fun q1 => ?_, fun q1 => ?_⟩
      · refine hG.2.1 (c_Mo_off (g := i) (sum := sum) (by omega) (hS i hi) hs) yv_Mo_off lk_Mo_133 (by decide +kernel) rfl rfl [0, 1, 2, 3, 4, 5, 6, 7, 8, 9, 10, 11, 12, 13, 14] (by decide +kernel) rfl rfl rfl (Nat.le_of_ble_eq_true rfl) (fun v w2 hv hl2 => ?_)
        obtain ⟨rfl, rfl⟩ := hv
        change G _ _ _ (wMo w ks ss n la su nm np ns sz tp tn pl rs rd lp ik kp km kn ln rz it)
        rw [zDst, if_pos q1] at tail
        exact tail
      · refine hG.2.1 (c_Mo_off (g := i) (sum := sum) (by omega) (hS i hi) hs) yv_Mo_off lk_Mo_133 (by decide +kernel) rfl rfl [0, 1, 2, 3, 4, 5, 6, 7, 8, 9, 10, 11, 12, 13, 14] (by decide +kernel) rfl rfl rfl (Nat.le_of_ble_eq_true rfl) (fun v w2 hv hl2 => ?_)
        obtain ⟨rfl, rfl⟩ := hv
        change G _ _ _ (wMo w ks ss n la su nm np ns sz tp tn pl rs rd lp ik kp km kn ln rz it)
        rw [zDst, if_neg q1] at tail
        refine hG.1 [51] 80 _ _ _ _ ?_
        exact tail
    · change G _ _ _ (wMo w ks ss n la su nm np ns sz tp tn pl rs rd lp ik kp km kn ln rz it)
      rw [e, if_neg (fun z => hc ((hp i (by omega)).mpr z))] at ih
      refine hG.1 [9] 80 _ _ _ _ ?_
      refine ⟨by omega, fun q => ?_, fun q => absurd rfl q⟩
      exact ih
theorem c_Mo_payers {sum : Int} (hn1 : 1 ≤ n) (hn : n ≤ 9) (hS : zOkS ss n) (hs : 0 ≤ sum ∧ sum ≤ 20) (hlw : 0 ≤ la 0 ∧ la 0 ≤ 3) (hla : 0 ≤ la 1 ∧ la 1 ≤ 2) :
    zMet m_Mo_payers [.inr (.inr 0), .inl sum] (wMo w ks ss n la su nm np ns sz tp tn pl rs rd lp ik kp km kn ln rz it) (fun v wd => v = some (.inl (zPyM ss n (la 0) (la 1) sum)) ∧ wd = wMo w ks ss n la su nm np ns sz tp tn pl rs rd lp ik kp km kn ln rz it) := by
  have hA := z_allR n (by omega)
  have hB := fun k (hk : k < 9) => z_allB n (by omega) k hk
  have hF := zFst_in (ss := ss) (ties := la 1) (sum := sum) (p := fun k => decide (k < n)) n
  have hF0 := zFst_pos (ss := ss) (ties := la 1) (sum := sum) (p := fun k => decide (k < n)) (k := 0) (decide_eq_true (by omega)) n (by omega)
  have hM := zMid_in (ss := ss) (n := n) n
  have hM2 := zMid_lt (ss := ss) hn1
  refine zMet.of (own := RX7) rfl (by decide +kernel) tk_Mo_payers fok_Mo cok_Mo (Nat.le_of_ble_eq_true rfl) (fun G hG => ?_)
  refine hG.1 [84] 80 _ _ _ _ ?_
  refine ⟨by omega, by omega, by omega, fun h1 => ?_, fun h1 => ?_⟩
  · have last : ∀ X p (near : Int), (-2147483648 ≤ X ∧ X ≤ 2147483647) → (∀ k, k < 9 → (zBit X k ↔ p k = true)) → zFm ss n (la 1) (if la 0 = 1 then 1 else 0) sum p = zPyM ss n (la 0) (la 1) sum → G 84 [(0, .inr (.inr 0)), (1, .inl sum), (2, .inl X)] [] (wMo w ks ss n la su nm np ns sz tp tn pl rs rd lp ik kp km kn ln rz it) := by
      intro X p near hX hp he
      refine hG.1 [] 80 _ _ _ _ ?_
      refine ⟨by omega, by omega, fun q => ?_, fun q => ?_⟩
      · rw [if_neg q] at he
        refine hG.2.1 (c_Mo_farthest (x := X) (sum := sum) (near := 0) (p := p) hX hp hn hS hs hla (Or.inl rfl)) yv_Mo_farthest lk_Mo_146 (by decide +kernel) rfl rfl [0, 1, 2, 3, 4, 5, 6, 7, 8, 9, 10, 11, 12, 13, 14] (by decide +kernel) rfl rfl rfl (Nat.le_of_ble_eq_true rfl) (fun v w2 hv hl2 => ?_)
        obtain ⟨rfl, rfl⟩ := hv
        change G _ _ _ (wMo w ks ss n la su nm np ns sz tp tn pl rs rd lp ik kp km kn ln rz it)
        refine hG.1 [] 80 _ _ _ _ ?_
        exact ⟨trivial, by rw [he], rfl⟩
      · rw [if_pos q] at he
        refine hG.2.1 (c_Mo_farthest (x := X) (sum := sum) (near := 1) (p := p) hX hp hn hS hs hla (Or.inr rfl)) yv_Mo_farthest lk_Mo_146 (by decide +kernel) rfl rfl [0, 1, 2, 3, 4, 5, 6, 7, 8, 9, 10, 11, 12, 13, 14] (by decide +kernel) rfl rfl rfl (Nat.le_of_ble_eq_true rfl) (fun v w2 hv hl2 => ?_)
        obtain ⟨rfl, rfl⟩ := hv
        change G _ _ _ (wMo w ks ss n la su nm np ns sz tp tn pl rs rd lp ik kp km kn ln rz it)
        refine hG.1 [] 80 _ _ _ _ ?_
        exact ⟨trivial, by rw [he], rfl⟩
    refine ⟨by omega, by omega, fun h2 => ?_, fun h2 => ?_⟩
    · exact last _ (fun k => decide (k < n)) 0 hA hB (by rw [zPyM, if_neg h1, if_neg (show ¬ (la 0 = 3 ∧ 1 < n) from fun z => h2 z.1)])
    · refine ⟨by omega, fun h3 => ?_, fun h3 => ?_⟩
      · exact last _ (fun k => decide (k < n)) 0 hA hB (by rw [zPyM, if_neg h1, if_neg (show ¬ (la 0 = 3 ∧ 1 < n) from fun z => absurd z.2 (by omega))])
      · refine hG.2.1 (c_Mo_middle hn hS) yv_Mo_middle lk_Mo_143 (by decide +kernel) rfl rfl [0, 1, 2, 3, 4, 5, 6, 7, 8, 9, 10, 11, 12, 13, 14] (by decide +kernel) rfl rfl rfl (Nat.le_of_ble_eq_true rfl) (fun v w2 hv hl2 => ?_)
        obtain ⟨rfl, rfl⟩ := hv
        obtain ⟨j, hj⟩ := z_nat hM.1
        have hp := last _ (fun k => decide (k < n ∧ k ≠ j)) 0 (z_and_in (1 * 2 ^ (n : Int).toNat - 1) (z_xor (1 * 2 ^ (j : Int).toNat) (-1))) (fun k hk => z_butB n (by omega) j (by omega) k hk) (by rw [zPyM, if_neg h1, if_pos (show la 0 = 3 ∧ 1 < n from ⟨h2, by omega⟩), if_neg (show ¬ la 0 = 1 by omega), hj] <;> rfl)
        rw [hj]
        change G _ _ _ (wMo w ks ss n la su nm np ns sz tp tn pl rs rd lp ik kp km kn ln rz it)
        refine hG.1 [84] 80 _ _ _ _ ?_
        exact ⟨by omega, hp⟩
  · obtain ⟨j, hj⟩ := z_nat hF0
    refine hG.2.1 (c_Mo_firstOff (x := 1 * 2 ^ (n : Int).toNat - 1) (sum := sum) (p := fun k => decide (k < n)) hA hB hn hS hs hla) yv_Mo_firstOff lk_Mo_140 (by decide +kernel) rfl rfl [0, 1, 2, 3, 4, 5, 6, 7, 8, 9, 10, 11, 12, 13, 14] (by decide +kernel) rfl rfl rfl (Nat.le_of_ble_eq_true rfl) (fun v w2 hv hl2 => ?_)
    obtain ⟨rfl, rfl⟩ := hv
    rw [hj]
    change G _ _ _ (wMo w ks ss n la su nm np ns sz tp tn pl rs rd lp ik kp km kn ln rz it)
    refine hG.1 [] 80 _ _ _ _ ?_
    refine ⟨by omega, by omega, fun h2 => ?_, fun h2 => ?_⟩
    · have hk : ∃ k, k < n ∧ k ≠ j := by
        by_cases h0 : j = 0
        · exact ⟨1, by omega, by omega⟩
        · exact ⟨0, by omega, by omega⟩
      obtain ⟨k0, hk0⟩ := hk
      have hG0 := zFst_pos (ss := ss) (ties := la 1) (sum := sum) (p := fun k => decide (k < n ∧ k ≠ j)) (k := k0) (decide_eq_true hk0) n hk0.1
      have hG1 := zFst_in (ss := ss) (ties := la 1) (sum := sum) (p := fun k => decide (k < n ∧ k ≠ j)) n
      refine hG.2.1 (c_Mo_firstOff (x := z_and (1 * 2 ^ (n : Int).toNat - 1) (z_xor (1 * 2 ^ (j : Int).toNat) (-1))) (sum := sum) (p := fun k => decide (k < n ∧ k ≠ j)) (z_and_in (1 * 2 ^ (n : Int).toNat - 1) (z_xor (1 * 2 ^ (j : Int).toNat) (-1))) (fun k hk => z_butB n (by omega) j (by omega) k hk) hn hS hs hla) yv_Mo_firstOff lk_Mo_140 (by decide +kernel) rfl rfl [0, 1, 2, 3, 4, 5, 6, 7, 8, 9, 10, 11, 12, 13, 14] (by decide +kernel) rfl rfl rfl (Nat.le_of_ble_eq_true rfl) (fun v w2 hv hl2 => ?_)
      obtain ⟨rfl, rfl⟩ := hv
      change G _ _ _ (wMo w ks ss n la su nm np ns sz tp tn pl rs rd lp ik kp km kn ln rz it)
      refine hG.1 [] 80 _ _ _ _ ?_
      exact ⟨by omega, trivial, by rw [zPyM, if_pos h1, if_neg (by omega), hj] <;> rfl, rfl⟩
    · exact ⟨trivial, by rw [zPyM, if_pos h1, if_pos (by omega), hj] <;> rfl, rfl⟩
end M4
