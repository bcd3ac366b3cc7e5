/-! THE REFERENCE: bytes, numbers -/
theorem z_and255 (y : Int) : z_and y 255 = y % 256 := by
  have hN : ((Int32.ofInt y &&& Int32.ofInt 255).toBitVec).toNat = (y % 4294967296).toNat % 256 := by
    show (BitVec.ofInt 32 y &&& BitVec.ofInt 32 255).toNat = _
    have e : (BitVec.ofInt 32 255).toNat = 255 := by decide
    rw [BitVec.toNat_and, e, BitVec.toNat_ofInt]
    exact Nat.and_two_pow_sub_one_eq_mod _ 8
  have hT : z_and y 255 = ((Int32.ofInt y &&& Int32.ofInt 255).toBitVec).toInt := rfl
  rw [hT, BitVec.toInt_eq_toNat_of_lt (by rw [hN]; omega), hN]
  omega
theorem z_andL255 (y : Int) : z_andL y 255 = y % 256 := by
  have hN : ((Int64.ofInt y &&& Int64.ofInt 255).toBitVec).toNat = (y % 18446744073709551616).toNat % 256 := by
    show (BitVec.ofInt 64 y &&& BitVec.ofInt 64 255).toNat = _
    have e : (BitVec.ofInt 64 255).toNat = 255 := by decide
    rw [BitVec.toNat_and, e, BitVec.toNat_ofInt]
    exact Nat.and_two_pow_sub_one_eq_mod _ 8
  have hT : z_andL y 255 = ((Int64.ofInt y &&& Int64.ofInt 255).toBitVec).toInt := rfl
  rw [hT, BitVec.toInt_eq_toNat_of_lt (by rw [hN]; omega), hN]
  omega
theorem z_shB : ∀ i, i < 8 → ((Int32.ofInt (8 * ((i : Nat) : Int))).toInt64.toUInt64 &&& Int64.toUInt64 63).toNat % 64 = 8 * i := by decide +kernel
theorem z_p8 : ∀ i, i < 8 → (2 : Int) ^ (8 * ((i : Nat) : Int)).toNat = ((2 ^ (8 * i) : Nat) : Int) := by decide +kernel
theorem z_by : ∀ i, i < 8 → ∀ x : Int, (((x % 18446744073709551616).toNat / 2 ^ (8 * i) : Nat) : Int) % 256 = x / ((2 ^ (8 * i) : Nat) : Int) % 256 := by
  intro i hi x
  have h : i = 0 ∨ i = 1 ∨ i = 2 ∨ i = 3 ∨ i = 4 ∨ i = 5 ∨ i = 6 ∨ i = 7 := by omega
  rcases h with rfl | rfl | rfl | rfl | rfl | rfl | rfl | rfl
  · rw [show 2 ^ (8 * 0) = 1 by decide]; omega
  · rw [show 2 ^ (8 * 1) = 256 by decide]; omega
  · rw [show 2 ^ (8 * 2) = 65536 by decide]; omega
  · rw [show 2 ^ (8 * 3) = 16777216 by decide]; omega
  · rw [show 2 ^ (8 * 4) = 4294967296 by decide]; omega
  · rw [show 2 ^ (8 * 5) = 1099511627776 by decide]; omega
  · rw [show 2 ^ (8 * 6) = 281474976710656 by decide]; omega
  · rw [show 2 ^ (8 * 7) = 72057594037927936 by decide]; omega
theorem zByte_eq {x : Int} {i : Nat} (hi : i < 8) : z_andL (x / 2 ^ (8 * (i : Int)).toNat) 255 = zByte x i := by
  have h1 : z_lushr x (8 * (i : Int)) = Int.bmod (((x % 18446744073709551616).toNat >>> (8 * i) : Nat) : Int) 18446744073709551616 := by
    have hA : (Int64.ofInt x).toUInt64.toNat = (x % 18446744073709551616).toNat := by
      show (BitVec.ofInt 64 x).toNat = _
      rw [BitVec.toNat_ofInt]
      rfl
    have hT : z_lushr x (8 * (i : Int)) = (((Int64.ofInt x).toUInt64 >>> ((Int32.ofInt (8 * (i : Int))).toInt64.toUInt64 &&& Int64.toUInt64 63)).toBitVec).toInt := rfl
    have hU : (((Int64.ofInt x).toUInt64 >>> ((Int32.ofInt (8 * (i : Int))).toInt64.toUInt64 &&& Int64.toUInt64 63)).toBitVec).toNat = (x % 18446744073709551616).toNat >>> (8 * i) := by
      show ((Int64.ofInt x).toUInt64 >>> ((Int32.ofInt (8 * (i : Int))).toInt64.toUInt64 &&& Int64.toUInt64 63)).toNat = _
      rw [UInt64.toNat_shiftRight, z_shB i hi, hA]
    rw [hT, BitVec.toInt_eq_toNat_bmod, hU]
  unfold zByte
  rw [z_and255, z_andL255, z_p8 i hi, h1, ← z_by i hi, Nat.shiftRight_eq_div_pow]
  have d : (256 : Int) ∣ ((18446744073709551616 : Nat) : Int) := ⟨72057594037927936, by decide⟩
  rw [← Int.emod_emod_of_dvd (Int.bmod _ _) d, Int.bmod_emod, Int.emod_emod_of_dvd _ d]
theorem zByte_in (x : Int) (i : Nat) : 0 ≤ zByte x i ∧ zByte x i ≤ 255 := by
  unfold zByte
  rw [z_and255]
  omega
-- the reference's numbers run a little further than the class's
def zNmR (b : Int → Int) : Nat → Nat → Int → Int
  | 0, _, acc => acc
  | d + 1, p, acc => if 48 ≤ b p ∧ b p ≤ 57 then zNmR b d (p + 1) (if 999 < acc then acc else 10 * acc + b p - 48) else acc
theorem zNmR_min (b : Int → Int) : ∀ d p acc, 0 ≤ acc → zNmS b d p (if acc ≤ 1000 then acc else 1000) = if zNmR b d p acc ≤ 1000 then zNmR b d p acc else 1000
  | 0, p, acc, _ => rfl
  | d + 1, p, acc, h => by
    unfold zNmS zNmR
    by_cases c : 48 ≤ b p ∧ b p ≤ 57
    · rw [if_pos c, if_pos c]
      by_cases c2 : 999 < acc
      · rw [if_pos c2]
        have h1 := zNmR_min b d (p + 1) acc h
        rw [← h1]
        congr 1
        by_cases c3 : acc ≤ 1000
        · rw [if_pos c3, if_neg (by omega)]; omega
        · rw [if_neg c3, if_neg (by omega)]
      · rw [if_neg c2]
        have h1 := zNmR_min b d (p + 1) (10 * acc + b p - 48) (by omega)
        rw [← h1]
        congr 1
        rw [if_pos (show acc ≤ 1000 by omega)]
    · rw [if_neg c, if_neg c]
theorem zNmR_in (b : Int → Int) : ∀ d p acc, (0 ≤ acc ∧ acc ≤ 9999) → 0 ≤ zNmR b d p acc ∧ zNmR b d p acc ≤ 9999
  | 0, p, acc, h => h
  | d + 1, p, acc, h => by
    unfold zNmR
    by_cases c : 48 ≤ b p ∧ b p ≤ 57
    · rw [if_pos c]
      refine zNmR_in b d (p + 1) _ ?_
      split <;> omega
    · rw [if_neg c]; exact h
theorem zNm_of (b : Int → Int) (n p : Nat) : zNum b n p = if zNmR b (n - p) p 0 ≤ 1000 then zNmR b (n - p) p 0 else 1000 := by
  have := zNmR_min b (n - p) p 0 (by omega)
  rw [if_pos (by omega)] at this
  exact this
section M16
variable {w ks ss : Int → Int} {n : Nat} {la su nm np ns : Int → Int} {sz : Nat} {tp : Int → Int} {tn pl : Nat} {rs : Int} {rd : Int → Int} {lp ik : Int} {kp : Int → Int} {km kn : Int} {ln rz it : Int → Int}
theorem c_Mo_type {x y : Int} (hx : -9223372036854775808 ≤ x ∧ x ≤ 9223372036854775807) (hy : -2147483648 ≤ y ∧ y ≤ 2147483647) (ht : tn ≤ 80) :
    zMet m_Mo_type [.inr (.inr 0), .inr (.inl x), .inl y] (wMo w ks ss n la su nm np ns sz tp tn pl rs rd lp ik kp km kn ln rz it) (fun v wd =>
      (((1 ≤ y ∧ y ≤ 8) ∧ zPrn x y.toNat) ∧ (tn : Int) ≤ 80 - y ∧ v = some (.inl ((tn + y.toNat : Nat) : Int)) ∧ wd = wMo w ks ss n la su nm np ns sz (zApp x y.toNat tp tn) (tn + y.toNat) pl rs rd lp ik kp km kn ln rz it) ∨
      (((1 ≤ y ∧ y ≤ 8) ∧ zPrn x y.toNat) ∧ ¬ (tn : Int) ≤ 80 - y ∧ v = some (.inl (-3)) ∧ wd = wMo w ks ss n la su nm np ns sz tp tn pl rs rd lp ik kp km kn ln rz it) ∨
      (¬ ((1 ≤ y ∧ y ≤ 8) ∧ zPrn x y.toNat) ∧ v = some (.inl (-1)) ∧ wd = wMo w ks ss n la su nm np ns sz tp tn pl rs rd lp ik kp km kn ln rz it)) := by
  refine zMet.of (own := RX7) rfl (by decide +kernel) tk_Mo_type fok_Mo cok_Mo (Nat.le_of_ble_eq_true rfl) (fun G hG => ?_)
  refine hG.1 [] 80 _ _ _ _ ?_
  refine ⟨by omega, ?_⟩
  refine hG.2.2.1 (c_Mo_in (a := y) (b := 1) (c := 8) (by omega) (by omega) (by omega)) ys_Mo_in (Or.inl lk_Mo_55) (by decide +kernel) rfl [] (by decide +kernel) rfl rfl rfl (Nat.le_of_ble_eq_true rfl) (fun v w2 hv hl2 => ?_)
  obtain ⟨⟨hc, rfl⟩ | ⟨hc, rfl⟩, rfl⟩ := hv
  · change G _ _ _ (wMo w ks ss n la su nm np ns sz tp tn pl rs rd lp ik kp km kn ln rz it)
    obtain ⟨k, rfl⟩ := z_nat (show 0 ≤ y by omega)
    refine hG.1 [19] 80 _ _ _ _ ?_
    refine ⟨by omega, fun q => ?_, fun q => absurd q (by omega)⟩
    have key : ∀ j, j ≤ k → (∀ o : Nat, j ≤ o → o < k → 32 ≤ zByte x o ∧ zByte x o ≤ 126) → ∀ i : Int, i = (j : Int) - 1 → G 19 [(0, .inr (.inr 0)), (1, .inr (.inl x)), (3, .inl (k : Int)), (4, .inl i)] [] (wMo w ks ss n la su nm np ns sz tp tn pl rs rd lp ik kp km kn ln rz it) := by
      intro j
      induction j with
      | zero =>
        intro _ hall i hi
        have hprn : zPrn x k := fun o ho => hall o (Nat.zero_le o) ho
        have key2 : ∀ j (t : Nat) (b : Int → Int), j ≤ k → t + k = tn + k + (k - j) → tn + k ≤ 80 → zApp x j b t = zApp x k tp tn → ∀ i : Int, i = (j : Int) - 1 → G 74 [(0, .inr (.inr 0)), (1, .inr (.inl x)), (3, .inl (k : Int)), (4, .inl i)] [] (wMo w ks ss n la su nm np ns sz (b) (t) pl rs rd lp ik kp km kn ln rz it) := by
          intro j
          induction j with
          | zero =>
            intro t b hj htk h80 he i hi
            refine hG.1 [] 80 _ _ _ _ ?_
            refine ⟨by omega, fun q1 => ?_, fun q1 => absurd q1 (by omega)⟩
            refine ⟨trivial, Or.inl ⟨⟨hc, hprn⟩, by omega, ?_, ?_⟩⟩
            · have : t = tn + (k : Int).toNat := by omega
              rw [this]
            · have e1 : t = tn + (k : Int).toNat := by omega
              have e2 : b = zApp x (k : Int).toNat tp tn := he
              rw [← e1, ← e2]
          | succ j ih =>
            intro t b hj htk h80 he i hi
            obtain rfl : i = (j : Int) := by omega
            have hby := zByte_eq (x := x) (i := j) (by omega)
            have h5 := ih (t + 1) (z_u b t (zByte x j)) (by omega) (by omega) h80 he ((j : Int) + -1) (by omega)
            rw [← hby] at h5
            refine hG.1 [74] 80 _ _ _ _ ?_
            refine ⟨by omega, fun q1 => absurd q1 (by omega), fun q1 => ?_⟩
            refine ⟨by omega, Or.inl ?_⟩
            exact ⟨by omega, h5⟩
        refine hG.1 [74] 80 _ _ _ _ ?_
        refine ⟨by omega, fun q1 => ?_, fun q1 => absurd q1 (by omega)⟩
        refine ⟨by omega, fun q2 => ?_, fun q2 => ?_⟩
        · exact key2 k tn tp (Nat.le_refl k) (by omega) (by omega) rfl _ rfl
        · exact ⟨trivial, Or.inr (Or.inl ⟨⟨hc, hprn⟩, by omega, rfl, rfl⟩)⟩
      | succ j ih =>
        intro hj hall i hi
        obtain rfl : i = (j : Int) := by omega
        have hby := zByte_eq (x := x) (i := j) (by omega)
        have hbi := zByte_in x j
        refine hG.1 [19] 80 _ _ _ _ ?_
        refine ⟨by omega, fun q1 => absurd q1 (by omega), fun q1 => ?_⟩
        refine ⟨by omega, ?_⟩
        refine hG.2.2.1 (c_Mo_in (a := z_andL (x / 2 ^ (8 * (j : Int)).toNat) 255) (b := 32) (c := 126) (by omega) (by omega) (by omega)) ys_Mo_in (Or.inl lk_Mo_55) (by decide +kernel) rfl [] (by decide +kernel) rfl rfl rfl (Nat.le_of_ble_eq_true rfl) (fun v w2 hv hl2 => ?_)
        rw [hby] at hv
        obtain ⟨⟨hd, rfl⟩ | ⟨hd, rfl⟩, rfl⟩ := hv
        · change G _ _ _ (wMo w ks ss n la su nm np ns sz tp tn pl rs rd lp ik kp km kn ln rz it)
          refine hG.1 [19] 80 _ _ _ _ ?_
          refine ⟨by omega, fun q2 => ?_, fun q2 => absurd q2 (by omega)⟩
          exact ih (by omega) (fun o h1 h2 => by
            rcases Nat.lt_or_eq_of_le h1 with h3 | h3
            · exact hall o h3 h2
            · rw [← h3]; exact hd) _ (by omega)
        · change G _ _ _ (wMo w ks ss n la su nm np ns sz tp tn pl rs rd lp ik kp km kn ln rz it)
          refine hG.1 [] 80 _ _ _ _ ?_
          refine ⟨by omega, fun q2 => absurd rfl q2, fun q2 => ?_⟩
          exact ⟨trivial, Or.inr (Or.inr ⟨fun z => hd (z.2 j (by omega)), rfl, rfl⟩)⟩
    exact key k (Nat.le_refl k) (fun o h1 h2 => by omega) _ rfl
  · change G _ _ _ (wMo w ks ss n la su nm np ns sz tp tn pl rs rd lp ik kp km kn ln rz it)
    refine hG.1 [] 80 _ _ _ _ ?_
    refine ⟨by omega, fun q => absurd rfl q, fun q => ?_⟩
    exact ⟨trivial, Or.inr (Or.inr ⟨fun z => hc z.1, rfl, rfl⟩)⟩
theorem c_Mo_nextByte (ht : tn ≤ 80) (hp : pl ≤ tn) (hb : ∀ j : Nat, j < tn → 32 ≤ tp j ∧ tp j ≤ 126) :
    zMet m_Mo_nextByte [.inr (.inr 0)] (wMo w ks ss n la su nm np ns sz tp tn pl rs rd lp ik kp km kn ln rz it) (fun v wd => v = some (.inl (zNx tp tn (zSk tp tn pl))) ∧ wd = wMo w ks ss n la su nm np ns sz tp tn (zSk tp tn pl) rs rd lp ik kp km kn ln rz it) := by
  have h0 := zSk_in (b := tp) hp
  refine zMet.of (own := RX7) rfl (by decide +kernel) tk_Mo_nextByte fok_Mo cok_Mo (Nat.le_of_ble_eq_true rfl) (fun G hG => ?_)
  have fin : ∀ q : Nat, q ≤ tn → zSk tp tn pl = q → G 38 [(0, .inr (.inr 0))] [] (wMo w ks ss n la su nm np ns sz tp tn (q) rs rd lp ik kp km kn ln rz it) := by
    intro q hq he
    refine hG.1 [] 80 _ _ _ _ ?_
    refine ⟨by omega, fun h1 => ?_, fun h1 => ?_⟩
    · exact ⟨trivial, by rw [he, zNx, if_neg (by omega)], by rw [he]⟩
    · exact ⟨by omega, trivial, by rw [he, zNx, if_pos (by omega)], by rw [he]⟩
  have key : ∀ d q : Nat, q + d = tn → zSk tp tn q = zSk tp tn pl → G 0 [(0, .inr (.inr 0))] [] (wMo w ks ss n la su nm np ns sz tp tn (q) rs rd lp ik kp km kn ln rz it) := by
    intro d
    induction d with
    | zero =>
      intro q hq he
      have h2 : zSk tp tn q = q := zScan_stop (by omega)
      refine hG.1 [0, 38] 80 _ _ _ _ ?_
      refine ⟨by omega, fun h1 => ?_, fun h1 => absurd h1 (by omega)⟩
      exact fin q (by omega) (by rw [← he, h2])
    | succ d ih =>
      intro q hq he
      have hbq := hb q (by omega)
      refine hG.1 [0, 38] 80 _ _ _ _ ?_
      refine ⟨by omega, fun h1 => absurd h1 (by omega), fun h1 => ?_⟩
      refine ⟨by omega, by omega, fun h2 => ?_, fun h2 => ?_⟩
      · have h3 : zSk tp tn q = q := zScan_stop (fun z => h2 (by simpa using z.2))
        exact fin q (by omega) (by rw [← he, h3])
      · have h3 : zSk tp tn q = zSk tp tn (q + 1) := zScan_step (by omega) (by simpa using h2)
        exact ih (q + 1) (by omega) (by rw [← h3]; exact he)
  exact key (tn - pl) pl (by omega) rfl
theorem c_Mo_readNumber {lo hi : Int} (ht : tn ≤ 80) (hp : pl ≤ tn) (hb : ∀ j : Nat, j < tn → 32 ≤ tp j ∧ tp j ≤ 126) (hlo : 0 ≤ lo ∧ lo ≤ 100) (hhi : 0 ≤ hi ∧ hi ≤ 100) :
    zMet m_Mo_readNumber [.inr (.inr 0), .inl lo, .inl hi] (wMo w ks ss n la su nm np ns sz tp tn pl rs rd lp ik kp km kn ln rz it) (fun v wd =>
      (zBadNum tp tn (zSk tp tn pl) lo hi ∧ v = some (.inl (-1)) ∧ wd = wMo w ks ss n la su nm np ns sz tp tn (zSk tp tn pl) rs rd lp ik kp km kn ln rz it) ∨
      (¬ zBadNum tp tn (zSk tp tn pl) lo hi ∧ v = some (.inl (zNum tp tn (zSk tp tn pl))) ∧ wd = wMo w ks ss n la su nm np ns sz tp tn (zDg tp tn (zSk tp tn pl)) rs rd lp ik kp km kn ln rz it)) := by
  have h0 := zSk_in (b := tp) hp
  generalize hq0 : zSk tp tn pl = q0 at h0 ⊢
  refine zMet.of (own := RX7) rfl (by decide +kernel) tk_Mo_readNumber fok_Mo cok_Mo (Nat.le_of_ble_eq_true rfl) (fun G hG => ?_)
  refine hG.1 [] 80 _ _ _ _ ?_
  refine hG.2.1 (c_Mo_nextByte ht hp hb) yv_Mo_nextByte lk_Mo_102 (by decide +kernel) rfl rfl [0, 1, 2, 3, 4, 5, 6, 7, 8, 9, 10, 11, 12, 13, 14] (by decide +kernel) rfl rfl rfl (Nat.le_of_ble_eq_true rfl) (fun v w2 hv hl2 => ?_)
  obtain ⟨rfl, rfl⟩ := hv
  change G _ _ _ (wMo w ks ss n la su nm np ns sz tp tn (zSk tp tn pl) rs rd lp ik kp km kn ln rz it)
  rw [hq0]
  have hD := zDg_in (b := tp) h0.2
  have hm := zNm_of tp tn q0
  have hr := zNmR_in tp (tn - q0) q0 0 (by omega)
  have fin : G 92 [(0, .inr (.inr 0)), (1, .inl lo), (2, .inl hi), (3, .inl (q0 : Int)), (4, .inl (zNmR tp (tn - q0) q0 0))] [] (wMo w ks ss n la su nm np ns sz tp tn (zDg tp tn q0) rs rd lp ik kp km kn ln rz it) := by
    refine hG.1 [] 80 _ _ _ _ ?_
    refine ⟨by omega, fun h1 => ?_, fun h1 => ?_⟩
    · refine ⟨by omega, by omega, by omega, ?_⟩
      refine hG.2.2.1 (c_Mo_in (a := zNmR tp (tn - q0) q0 0) (b := lo) (c := hi) (by omega) (by omega) (by omega)) ys_Mo_in (Or.inl lk_Mo_55) (by decide +kernel) rfl [] (by decide +kernel) rfl rfl rfl (Nat.le_of_ble_eq_true rfl) (fun v w2 hv hl2 => ?_)
      obtain ⟨⟨hc, rfl⟩ | ⟨hc, rfl⟩, rfl⟩ := hv
      · change G _ _ _ (wMo w ks ss n la su nm np ns sz tp tn (zDg tp tn q0) rs rd lp ik kp km kn ln rz it)
        rw [if_pos (by omega)] at hm
        refine hG.1 [] 80 _ _ _ _ ?_
        refine ⟨by omega, fun q => ?_, fun q => absurd q (by omega)⟩
        refine ⟨trivial, Or.inr ⟨fun z => ?_, by rw [hm], rfl⟩⟩
        rw [zBadNum, hm] at z
        omega
      · change G _ _ _ (wMo w ks ss n la su nm np ns sz tp tn (zDg tp tn q0) rs rd lp ik kp km kn ln rz it)
        refine hG.1 [] 80 _ _ _ _ ?_
        refine ⟨by omega, fun q => absurd rfl q, fun q => ?_⟩
        refine ⟨trivial, Or.inl ⟨?_, rfl, rfl⟩⟩
        rw [zBadNum, hm]
        by_cases c : zNmR tp (tn - q0) q0 0 ≤ 1000
        · rw [if_pos c]; omega
        · rw [if_neg c]; omega
    · have e : zDg tp tn q0 = q0 := by omega
      exact ⟨trivial, Or.inl ⟨Or.inl e, rfl, by rw [e]⟩⟩
  have key : ∀ d q : Nat, q + d = tn → ∀ acc : Int, (0 ≤ acc ∧ acc ≤ 9999) → zDg tp tn q = zDg tp tn q0 → zNmR tp d q acc = zNmR tp (tn - q0) q0 0 → G 13 [(0, .inr (.inr 0)), (1, .inl lo), (2, .inl hi), (3, .inl (q0 : Int)), (4, .inl acc)] [] (wMo w ks ss n la su nm np ns sz tp tn (q) rs rd lp ik kp km kn ln rz it) := by
    intro d
    induction d with
    | zero =>
      intro q hq acc hacc he1 he2
      have h2 : zDg tp tn q = q := zScan_stop (by omega)
      have e1 : q = zDg tp tn q0 := by rw [← he1, h2]
      have e2 : acc = zNmR tp (tn - q0) q0 0 := he2
      refine hG.1 [92] 80 _ _ _ _ ?_
      refine ⟨by omega, fun h1 => ?_, fun h1 => absurd h1 (by omega)⟩
      have f := fin
      rw [← e1, ← e2] at f
      exact f
    | succ d ih =>
      intro q hq acc hacc he1 he2
      have hbq := hb q (by omega)
      have e3 : zNmR tp (d + 1) q acc = if 48 ≤ tp q ∧ tp q ≤ 57 then zNmR tp d (q + 1) (if 999 < acc then acc else 10 * acc + tp q - 48) else acc := rfl
      rw [e3] at he2
      refine hG.1 [13, 92] 80 _ _ _ _ ?_
      refine ⟨by omega, fun h1 => absurd h1 (by omega), fun h1 => ?_⟩
      refine ⟨by omega, by omega, ?_⟩
      refine hG.2.2.1 (c_Mo_in (a := tp q) (b := 48) (c := 57) (by omega) (by omega) (by omega)) ys_Mo_in (Or.inl lk_Mo_55) (by decide +kernel) rfl [] (by decide +kernel) rfl rfl rfl (Nat.le_of_ble_eq_true rfl) (fun v w2 hv hl2 => ?_)
      obtain ⟨⟨hc, rfl⟩ | ⟨hc, rfl⟩, rfl⟩ := hv
      · change G _ _ _ (wMo w ks ss n la su nm np ns sz tp tn (q) rs rd lp ik kp km kn ln rz it)
        have h3 : zDg tp tn q = zDg tp tn (q + 1) := zScan_step (by omega) (decide_eq_true hc)
        rw [if_pos hc] at he2
        refine hG.1 [13] 80 _ _ _ _ ?_
        refine ⟨by omega, fun q1 => absurd q1 (by omega), fun q1 => ?_⟩
        refine ⟨by omega, fun q2 => ?_, fun q2 => ?_⟩
        · rw [if_neg (by omega)] at he2
          exact ⟨by omega, ih (q + 1) (by omega) _ (by omega) (by rw [← h3]; exact he1) he2⟩
        · rw [if_pos (by omega)] at he2
          exact ih (q + 1) (by omega) _ hacc (by rw [← h3]; exact he1) he2
      · change G _ _ _ (wMo w ks ss n la su nm np ns sz tp tn (q) rs rd lp ik kp km kn ln rz it)
        have h3 : zDg tp tn q = q := zScan_stop (fun z => hc (of_decide_eq_true z.2))
        rw [if_neg hc] at he2
        have e1 : q = zDg tp tn q0 := by rw [← he1, h3]
        refine hG.1 [92] 80 _ _ _ _ ?_
        refine ⟨by omega, fun q1 => ?_, fun q1 => absurd rfl q1⟩
        have f := fin
        rw [← e1, ← he2] at f
        exact f
  refine hG.1 [13] 80 _ _ _ _ ?_
  exact key (tn - q0) q0 (by omega) 0 (by omega) rfl rfl
end M16
