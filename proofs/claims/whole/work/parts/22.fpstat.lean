/-! FARTHESTPAYS: the static methods -/
def zEu : Nat → Nat → Nat → Nat
  | 0, c, _ => c
  | d + 1, c, r => if r = 0 then c else zEu d r (c % r)
theorem zEu_gcd : ∀ (m d c r : Nat), r < 2 ^ m → 2 * m + 1 ≤ d → zEu d c r = Nat.gcd c r
  | 0, d, c, r, hr, hd => by
    have h0 : r = 0 := by simpa using hr
    obtain ⟨e, rfl⟩ : ∃ e, d = e + 1 := ⟨d - 1, by omega⟩
    unfold zEu; rw [if_pos h0, h0, Nat.gcd_zero_right]
  | m + 1, d, c, r, hr, hd => by
    obtain ⟨e, rfl⟩ : ∃ e, d = e + 2 := ⟨d - 2, by omega⟩
    unfold zEu
    by_cases h0 : r = 0
    · rw [if_pos h0, h0, Nat.gcd_zero_right]
    · rw [if_neg h0]
      have hlt : c % r < r := Nat.mod_lt _ (by omega)
      have hg : Nat.gcd c r = Nat.gcd r (c % r) := by
        rw [Nat.gcd_comm c r, Nat.gcd_rec r c, Nat.gcd_comm]
      rw [hg]
      unfold zEu
      by_cases h1 : c % r = 0
      · rw [if_pos h1, h1, Nat.gcd_zero_right]
      · rw [if_neg h1]
        have hlt2 : r % (c % r) < c % r := Nat.mod_lt _ (by omega)
        have hg2 : Nat.gcd r (c % r) = Nat.gcd (c % r) (r % (c % r)) := by
          rw [Nat.gcd_comm r (c % r), Nat.gcd_rec (c % r) r, Nat.gcd_comm]
        have hsm : r % (c % r) + c % r ≤ r := by
          have h2 := Nat.div_add_mod r (c % r)
          have h3 : 1 ≤ r / (c % r) := (Nat.one_le_div_iff (by omega)).mpr (by omega)
          have h4 : (c % r) * 1 ≤ (c % r) * (r / (c % r)) := Nat.mul_le_mul_left _ h3
          omega
        rw [hg2]
        refine zEu_gcd m e _ _ ?_ (by omega)
        rw [Nat.pow_succ] at hr
        omega
def zLow (t b : Nat) (part : Int) : Int := if part = 0 then ((t / Nat.gcd b t : Nat) : Int) else ((b / Nat.gcd b t : Nat) : Int)
theorem c_Fp_lowest {t b : Nat} {part : Int} (ht : t < 2 ^ 60) (hb : 0 < b ∧ b < 2 ^ 60) (hp : part = 0 ∨ part = 1) : zMet m_Fp_lowest [.inr (.inl (t : Int)), .inr (.inl (b : Int)), .inl part] [] (fun v w => v = some (.inr (.inl (zLow t b part))) ∧ w = []) := by
  have e60 : (2 : Nat) ^ 60 = 1152921504606846976 := by decide
  rw [e60] at ht hb
  have hE : zEu 200 b t = Nat.gcd b t := zEu_gcd 60 200 b t (by rw [e60]; exact ht) (by omega)
  have hgpos : 0 < Nat.gcd b t := Nat.gcd_pos_of_pos_left _ hb.1
  have hgle : Nat.gcd b t ≤ b := Nat.gcd_le_left _ hb.1
  refine zMet.of (own := RX6) rfl (by decide +kernel) tk_Fp_lowest fok_Fp cok_Fp (Nat.le_of_ble_eq_true rfl) (fun G hG => ?_)
  refine hG.1 [9] 80 _ _ _ _ ?_
  have out : ∀ (i r : Nat), G 45 [(0, .inr (.inl (t : Int))), (2, .inr (.inl (b : Int))), (4, .inl part), (5, .inr (.inl ((Nat.gcd b t : Nat) : Int))), (7, .inr (.inl (r : Int))), (9, .inl (i : Int))] [] [] := by
    intro i r
    refine hG.1 [] 80 _ _ _ _ ?_
    refine ⟨by omega, fun h1 => ?_, fun h1 => absurd h1 (by omega)⟩
    refine ⟨by omega, fun h2 => ?_, fun h2 => ?_⟩
    · refine ⟨by omega, trivial, ?_, rfl⟩
      rw [zLow, if_neg h2, Int.natCast_ediv]
    · refine ⟨by omega, trivial, ?_, rfl⟩
      rw [zLow, if_pos h2, Int.natCast_ediv]
  have key : ∀ d i : Nat, i + d = 200 → ∀ c r : Nat, c < 1152921504606846976 → r < 1152921504606846976 → zEu d c r = Nat.gcd b t → G 9 [(0, .inr (.inl (t : Int))), (2, .inr (.inl (b : Int))), (4, .inl part), (5, .inr (.inl (c : Int))), (7, .inr (.inl (r : Int))), (9, .inl (i : Int))] [] [] := by
    intro d
    induction d with
    | zero =>
      intro i hi c r hc hr he
      have he : c = Nat.gcd b t := he
      refine hG.1 [45] 80 _ _ _ _ ?_
      refine ⟨by omega, fun h1 => ?_, fun h1 => absurd h1 (by omega)⟩
      rw [he]; exact out i r
    | succ d ih =>
      intro i hi c r hc hr he
      have he2 : (if r = 0 then c else zEu d r (c % r)) = Nat.gcd b t := he
      refine hG.1 [45, 9] 80 _ _ _ _ ?_
      refine ⟨by omega, fun h1 => absurd h1 (by omega), fun h1 => ?_⟩
      refine ⟨by omega, fun h2 => ?_, fun h2 => ?_⟩
      · rw [if_pos (by omega)] at he2
        rw [he2]; exact out i r
      · rw [if_neg (by omega)] at he2
        have hm : c % r < r := Nat.mod_lt _ (by omega)
        have := ih (i + 1) (by omega) r (c % r) hr (by omega) he2
        rw [Int.natCast_emod] at this
        exact ⟨by omega, hG.2.2.2.2.1 (fun q hq => List.mem_append_left _ hq) this⟩
  exact key 200 0 rfl b t hb.2 ht hE
theorem c_Fp_isPart {x : Int} (h : -2147483648 ≤ x ∧ x ≤ 2147483647) : zMet m_Fp_isPart [.inl x] [] (fun v w => z_bool (x = 0 ∨ x = 1) v ∧ w = []) := by
  refine zMet.of (own := RX6) rfl (by decide +kernel) tk_Fp_isPart fok_Fp cok_Fp (Nat.le_of_ble_eq_true rfl) (fun G hG => ?_)
  refine hG.1 [] 80 _ _ _ _ ?_
  refine ⟨by omega, fun h1 => ?_, fun h1 => ?_⟩
  · exact ⟨Or.inr rfl, Or.inl ⟨Or.inl h1, rfl⟩, rfl⟩
  · refine ⟨by omega, fun h2 => ?_, fun h2 => ?_⟩
    · exact ⟨Or.inl rfl, Or.inr ⟨by omega, rfl⟩, rfl⟩
    · exact ⟨Or.inr rfl, Or.inl ⟨Or.inr h2, rfl⟩, rfl⟩
theorem c_Fp_isSheet {x : Int} (h : -2147483648 ≤ x ∧ x ≤ 2147483647) : zMet m_Fp_isSheet [.inl x] [] (fun v w => z_bool (0 ≤ x ∧ x < 4) v ∧ w = []) := by
  refine zMet.of (own := RX6) rfl (by decide +kernel) tk_Fp_isSheet fok_Fp cok_Fp (Nat.le_of_ble_eq_true rfl) (fun G hG => ?_)
  refine hG.1 [] 80 _ _ _ _ ?_
  refine ⟨by omega, fun h1 => ?_, fun h1 => ?_⟩
  · exact ⟨Or.inl rfl, Or.inr ⟨by omega, rfl⟩, rfl⟩
  · refine ⟨by omega, fun h2 => ?_, fun h2 => ?_⟩
    · exact ⟨Or.inl rfl, Or.inr ⟨by omega, rfl⟩, rfl⟩
    · exact ⟨Or.inr rfl, Or.inl ⟨by omega, rfl⟩, rfl⟩
theorem c_Fp_isLane {x : Int} (h : -2147483648 ≤ x ∧ x ≤ 2147483647) : zMet m_Fp_isLane [.inl x] [] (fun v w => z_bool (0 ≤ x ∧ x ≤ 2) v ∧ w = []) := by
  refine zMet.of (own := RX6) rfl (by decide +kernel) tk_Fp_isLane fok_Fp cok_Fp (Nat.le_of_ble_eq_true rfl) (fun G hG => ?_)
  refine hG.1 [] 80 _ _ _ _ ?_
  refine ⟨by omega, fun h1 => ?_, fun h1 => ?_⟩
  · exact ⟨Or.inl rfl, Or.inr ⟨by omega, rfl⟩, rfl⟩
  · refine ⟨by omega, fun h2 => ?_, fun h2 => ?_⟩
    · exact ⟨Or.inl rfl, Or.inr ⟨by omega, rfl⟩, rfl⟩
    · exact ⟨Or.inr rfl, Or.inl ⟨by omega, rfl⟩, rfl⟩
theorem z_and_in (x y : Int) : -2147483648 ≤ z_and x y ∧ z_and x y ≤ 2147483647 := by
  have h1 := Int32.le_toInt (Int32.ofInt x &&& Int32.ofInt y)
  have h2 := Int32.toInt_lt (Int32.ofInt x &&& Int32.ofInt y)
  unfold z_and; omega
theorem z_maskN (b : BitVec 32) : b &&& 4292870144#32 = 0#32 ↔ b.toNat < 2097152 := by
  have hm : ∀ i, i < 32 → (4292870144#32).getLsbD i = decide (21 ≤ i) := by decide +kernel
  constructor
  · intro h
    refine Nat.lt_pow_two_of_testBit (n := 21) b.toNat (fun i hi => ?_)
    rcases Nat.lt_or_ge i 32 with h32 | h32
    · have h1 := congrArg (fun z => z.getLsbD i) h
      simp only [BitVec.getLsbD_and, hm i h32, BitVec.getLsbD_zero] at h1
      have h2 : b.getLsbD i = false := by simpa [hi] using h1
      exact h2
    · exact Nat.testBit_lt_two_pow (Nat.lt_of_lt_of_le b.isLt (Nat.pow_le_pow_right (by omega) h32))
  · intro h
    refine BitVec.eq_of_getLsbD_eq (fun i hi => ?_)
    rw [BitVec.getLsbD_and, hm i hi, BitVec.getLsbD_zero]
    by_cases h21 : 21 ≤ i
    · have h2 : b.getLsbD i = false := Nat.testBit_lt_two_pow (Nat.lt_of_lt_of_le (show b.toNat < 2 ^ 21 from h) (Nat.pow_le_pow_right (by omega) h21))
      rw [h2]; rfl
    · simp [h21]
theorem z_mask {x : Int} (h : -2147483648 ≤ x ∧ x ≤ 2147483647) : z_and x (-2097152) = 0 ↔ 0 ≤ x ∧ x < 2097152 := by
  have e1 : z_and x (-2097152) = 0 ↔ (Int32.ofInt x).toBitVec &&& 4292870144#32 = 0#32 := by
    unfold z_and
    constructor
    · intro q
      have q2 : Int32.ofInt x &&& Int32.ofInt (-2097152) = 0 := Int32.toInt_inj.mp q
      exact congrArg Int32.toBitVec q2
    · intro q
      have q2 : Int32.ofInt x &&& Int32.ofInt (-2097152) = 0 := Int32.toBitVec_inj.mp q
      rw [q2]; rfl
  rw [e1, z_maskN]
  have e2 : (Int32.ofInt x).toBitVec.toNat = (x % 4294967296).toNat := by
    show (BitVec.ofInt 32 x).toNat = _
    rw [BitVec.toNat_ofInt]; rfl
  rw [e2]
  omega
theorem c_Fp_isSetOfSums {x : Int} (h : -2147483648 ≤ x ∧ x ≤ 2147483647) : zMet m_Fp_isSetOfSums [.inl x] [] (fun v w => z_bool (0 < x ∧ x < 2097152) v ∧ w = []) := by
  have hi := z_and_in x (-2097152)
  have hm := z_mask h
  refine zMet.of (own := RX6) rfl (by decide +kernel) tk_Fp_isSetOfSums fok_Fp cok_Fp (Nat.le_of_ble_eq_true rfl) (fun G hG => ?_)
  refine hG.1 [] 80 _ _ _ _ ?_
  refine ⟨by omega, fun h1 => ?_, fun h1 => ?_⟩
  · exact ⟨Or.inl rfl, Or.inr ⟨by omega, rfl⟩, rfl⟩
  · refine ⟨by omega, fun h2 => ?_, fun h2 => ?_⟩
    · exact ⟨Or.inl rfl, Or.inr ⟨fun z => h2 (hm.mpr (by omega)), rfl⟩, rfl⟩
    · have := hm.mp h2
      exact ⟨Or.inr rfl, Or.inl ⟨by omega, rfl⟩, rfl⟩
