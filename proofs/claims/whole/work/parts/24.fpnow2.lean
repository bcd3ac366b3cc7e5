/-! FARTHESTPAYS: means, best slips, leagues, nights of now -/
theorem z_orN {a b : Nat} (ha : a < 2147483648) (hb : b < 2147483648) : z_or (a : Int) (b : Int) = ((a ||| b : Nat) : Int) := by
  have e : Int32.ofInt (a : Int) ||| Int32.ofInt (b : Int) = Int32.ofInt ((a ||| b : Nat) : Int) := by
    apply Int32.toBitVec_inj.mp
    show BitVec.ofInt 32 (a : Int) ||| BitVec.ofInt 32 (b : Int) = BitVec.ofInt 32 ((a ||| b : Nat) : Int)
    rw [BitVec.ofInt_natCast, BitVec.ofInt_natCast, BitVec.ofInt_natCast]
    apply BitVec.eq_of_getLsbD_eq
    intro i hi
    simp [hi]
  have h : a ||| b < 2 ^ 31 := Nat.or_lt_two_pow (by omega) (by omega)
  unfold z_or
  rw [e, z_R (by omega)]
def zPop : Nat → Nat → Nat
  | 0, _ => 0
  | k + 1, s => s % 2 + zPop k (s / 2)
theorem z_bc : ∀ s : Nat, s < 512 → (let a := (s : Int) - z_and (z_ushr (s : Nat) 1) 1431655765
    let b := z_and a 858993459 + z_and (z_ushr a 2) 858993459
    let c := z_and (b + z_ushr b 4) 252645135
    let d := c + z_ushr c 8
    let e := d + z_ushr d 16
    z_and e 63) = (zPop 9 s : Int) := by decide +kernel
theorem c_Ja_bitCount {s : Nat} (hs : s < 512) : zMet m_Ja_bitCount [.inl s] [] (fun v w => v = some (.inl (zPop 9 s : Int)) ∧ w = []) := by
  have h := z_bc s hs
  refine zMet.of (own := "java/lang/Integer") rfl (by decide +kernel) tk_Ja_bitCount fok_Ji cok_Ji (Nat.le_of_ble_eq_true rfl) (fun G hG => ?_)
  refine hG.1 [] 80 _ _ _ _ ?_
  exact ⟨trivial, congrArg (fun z => some (Sum.inl z)) h, rfl⟩
abbrev zBit (x : Int) (k : Nat) : Prop := z_and (x / 2 ^ (k : Int).toNat) 1 = 1
noncomputable def zHs (x : Int) (f : Nat → Int) : Nat → Int × Int
  | 0 => (-1, -1)
  | k + 1 => if zBit x k ∧ (zHs x f k).2 < f k then ((k : Int), f k) else zHs x f k
noncomputable def zDue (ss : Int → Int) (n : Nat) (who ties : Int) (g : Nat) : Nat → Int := fun k => (k : Int) * zSh ss n who ties k g (zFree ss n who)
noncomputable def zChM (x : Int) (ss : Int → Int) (n : Nat) (who ties : Int) : Nat → Nat
  | 0 => 0
  | k + 1 => if 1 ≤ k ∧ zBit x k then zChM x ss n who ties k ||| zMaskN (zPay ss n who ties k) n else zChM x ss n who ties k
theorem zMask9 {p : Nat → Bool} {n : Nat} (hn : n ≤ 9) : zMaskN p n < 512 := Nat.lt_of_lt_of_le (zMaskN_lt p n) (Nat.pow_le_pow_right (by omega) hn)
theorem zChM_lt {x : Int} {ss : Int → Int} {n : Nat} {who ties : Int} (hn : n ≤ 9) : ∀ k, zChM x ss n who ties k < 512
  | 0 => Nat.zero_lt_succ _
  | k + 1 => by
    have h1 := zChM_lt (x := x) (ss := ss) (who := who) (ties := ties) hn k
    have h2 := zMask9 (p := zPay ss n who ties k) hn
    unfold zChM; split
    · exact Nat.or_lt_two_pow (n := 9) h1 h2
    · exact h1
theorem zHs_in {x : Int} {f : Nat → Int} {M : Int} (hM : 0 ≤ M) (hf : ∀ k, 0 ≤ f k ∧ f k ≤ M) : ∀ k, (-1 ≤ (zHs x f k).1 ∧ (zHs x f k).1 ≤ (k : Int)) ∧ (-1 ≤ (zHs x f k).2 ∧ (zHs x f k).2 ≤ M)
  | 0 => by show (-1 ≤ (-1 : Int) ∧ (-1 : Int) ≤ _) ∧ (-1 ≤ (-1 : Int) ∧ (-1 : Int) ≤ M); omega
  | k + 1 => by
    have h1 := zHs_in (x := x) hM hf k
    have h2 := hf k
    unfold zHs; split
    · show (-1 ≤ (k : Int) ∧ (k : Int) ≤ _) ∧ (-1 ≤ f k ∧ f k ≤ M); omega
    · omega
section Fm
variable {img : Int} {w ks ss : Int → Int} {n : Nat} {who ties : Int} {su : Int → Int} {cs : Nat → zCD} {sz : Nat} {tl : zW}
theorem c_Fp_pays {g x part : Int} (hg : -2147483648 ≤ g ∧ g ≤ 2147483647) (hx : -2147483648 ≤ x ∧ x ≤ 2147483647) (hp : -2147483648 ≤ part ∧ part ≤ 2147483647) (hL : zOkL n who ties) (hS : zOkS ss n) :
    zMet m_Fp_pays [.inr (.inr 0), .inl g, .inl x, .inl part] (wFp img w ks ss n who ties su cs sz tl) (fun v wd => v = some (.inl (if (0 ≤ g ∧ g < n) ∧ (0 ≤ x ∧ x < 21) ∧ (part = 0 ∨ part = 1) then zLow (zDue ss n who ties g.toNat x.toNat).toNat 2520 part else -1)) ∧ wd = wFp img w ks ss n who ties su cs sz tl) := by
  obtain ⟨hn, hwho, hties⟩ := hL
  refine zMet.of (own := RX6) rfl (by decide +kernel) tk_Fp_pays fok_Fp cok_Fp (Nat.le_of_ble_eq_true rfl) (fun G hG => ?_)
  refine hG.1 [] 80 _ _ _ _ ?_
  refine hG.2.1 (c_Co_has hg hn) yv_Co_has lk_Fp_76 (by decide +kernel) rfl rfl [4, 5, 6] (by decide +kernel) rfl rfl rfl (Nat.le_of_ble_eq_true rfl) (fun v w2 hv hl2 => ?_)
  obtain ⟨⟨hc, rfl⟩ | ⟨hc, rfl⟩, rfl⟩ := hv
  · change G _ _ _ (wFp img w ks ss n who ties su cs sz tl)
    refine hG.1 [] 80 _ _ _ _ ?_
    refine ⟨by omega, fun h1 => absurd h1 (by omega), fun h1 => ?_⟩
    refine hG.2.2.1 (c_Fp_isSum hx) ys_Fp_isSum (Or.inl lk_Fp_51) (by decide +kernel) rfl [] (by decide +kernel) rfl rfl rfl (Nat.le_of_ble_eq_true rfl) (fun v w2 hv hl2 => ?_)
    obtain ⟨⟨hc2, rfl⟩ | ⟨hc2, rfl⟩, rfl⟩ := hv
    · change G _ _ _ (wFp img w ks ss n who ties su cs sz tl)
      refine hG.1 [] 80 _ _ _ _ ?_
      refine ⟨by omega, fun h2 => absurd h2 (by omega), fun h2 => ?_⟩
      refine hG.2.2.1 (c_Fp_isPart hp) ys_Fp_isPart (Or.inl lk_Fp_152) (by decide +kernel) rfl [] (by decide +kernel) rfl rfl rfl (Nat.le_of_ble_eq_true rfl) (fun v w2 hv hl2 => ?_)
      obtain ⟨⟨hc3, rfl⟩ | ⟨hc3, rfl⟩, rfl⟩ := hv
      · change G _ _ _ (wFp img w ks ss n who ties su cs sz tl)
        refine hG.1 [] 80 _ _ _ _ ?_
        refine ⟨by omega, fun h3 => ?_, fun h3 => absurd h3 (by omega)⟩
        obtain ⟨k, rfl⟩ := z_nat hc.1
        obtain ⟨j, rfl⟩ := z_nat hc2.1
        have hkn : k < n := by omega
        refine hG.2.1 (c_Co_due (g := k) (sum := (j : Int)) (by omega) hn hwho hties hS (by omega)) yv_Co_due lk_Fp_155 (by decide +kernel) rfl rfl [4, 5, 6] (by decide +kernel) rfl rfl rfl (Nat.le_of_ble_eq_true rfl) (fun v w2 hv hl2 => ?_)
        obtain ⟨rfl, rfl⟩ := hv
        change G _ _ _ (wFp img w ks ss n who ties su cs sz tl)
        have hsh := zSh_in ss n who ties j k (zFree ss n who)
        have hd0 : 0 ≤ zDue ss n who ties k j := Int.mul_nonneg (by omega) hsh.1
        have hd1 : zDue ss n who ties k j ≤ 20 * 2520 := Int.mul_le_mul (by omega) hsh.2 hsh.1 (by omega)
        have back : (j : Int) * zSh ss n who ties j k (zFree ss n who) = zDue ss n who ties k j := rfl
        rw [back]
        obtain ⟨t, ht⟩ := z_nat hd0
        rw [ht]
        have e60 : (2 : Nat) ^ 60 = 1152921504606846976 := by decide
        refine hG.1 [] 80 _ _ _ _ ?_
        refine ⟨by omega, ?_⟩
        refine hG.2.2.1 (c_Fp_lowest (t := t) (b := 2520) (part := part) (by omega) (by omega) hc3) ys_Fp_lowest (Or.inl lk_Fp_160) (by decide +kernel) rfl [] (by decide +kernel) rfl rfl rfl (Nat.le_of_ble_eq_true rfl) (fun v w2 hv hl2 => ?_)
        obtain ⟨rfl, rfl⟩ := hv
        change G _ _ _ (wFp img w ks ss n who ties su cs sz tl)
        refine hG.1 [] 80 _ _ _ _ ?_
        refine Or.inl ?_
        exact ⟨trivial, by rw [if_pos ⟨hc, hc2, hc3⟩, Int.toNat_natCast, Int.toNat_natCast, ht, Int.toNat_natCast] <;> rfl, rfl⟩
      · change G _ _ _ (wFp img w ks ss n who ties su cs sz tl)
        refine hG.1 [] 80 _ _ _ _ ?_
        refine ⟨by omega, fun h3 => absurd rfl h3, fun h3 => ?_⟩
        exact ⟨trivial, by rw [if_neg (fun z => hc3 z.2.2)], rfl⟩
    · change G _ _ _ (wFp img w ks ss n who ties su cs sz tl)
      refine hG.1 [] 80 _ _ _ _ ?_
      refine ⟨by omega, fun h2 => ?_, fun h2 => absurd rfl h2⟩
      exact ⟨trivial, by rw [if_neg (fun z => hc2 z.2.1)], rfl⟩
  · change G _ _ _ (wFp img w ks ss n who ties su cs sz tl)
    refine hG.1 [] 80 _ _ _ _ ?_
    refine ⟨by omega, fun h1 => ?_, fun h1 => absurd rfl h1⟩
    exact ⟨trivial, by rw [if_neg (fun z => hc z.1)], rfl⟩
theorem c_Fp_mean {g part : Int} (hg : -2147483648 ≤ g ∧ g ≤ 2147483647) (hp : -2147483648 ≤ part ∧ part ≤ 2147483647) (hL : zOkL n who ties) (hS : zOkS ss n) (hW : zOkW w) :
    zMet m_Fp_mean [.inr (.inr 0), .inl g, .inl part] (wFp img w ks ss n who ties su cs sz tl) (fun v wd => v = some (.inr (.inl (if (0 ≤ g ∧ g < n) ∧ (part = 0 ∨ part = 1) then (if zSumN w 21 = 0 then -2 else zLow (zBu w ss n who ties g.toNat).toNat (2520 * (zSumN w 21).toNat) part) else -1))) ∧ wd = wFp img w ks ss n who ties su cs sz tl) := by
  have hL2 := hL
  obtain ⟨hn, hwho, hties⟩ := hL2
  have hsum := zSumN_in hW
  have hwei := zWei21 hW
  refine zMet.of (own := RX6) rfl (by decide +kernel) tk_Fp_mean fok_Fp cok_Fp (Nat.le_of_ble_eq_true rfl) (fun G hG => ?_)
  refine hG.1 [] 80 _ _ _ _ ?_
  refine hG.2.1 (c_Co_has hg hn) yv_Co_has lk_Fp_76 (by decide +kernel) rfl rfl [4, 5, 6] (by decide +kernel) rfl rfl rfl (Nat.le_of_ble_eq_true rfl) (fun v w2 hv hl2 => ?_)
  obtain ⟨⟨hc, rfl⟩ | ⟨hc, rfl⟩, rfl⟩ := hv
  · change G _ _ _ (wFp img w ks ss n who ties su cs sz tl)
    refine hG.1 [] 80 _ _ _ _ ?_
    refine ⟨by omega, fun h1 => absurd h1 (by omega), fun h1 => ?_⟩
    refine hG.2.2.1 (c_Fp_isPart hp) ys_Fp_isPart (Or.inl lk_Fp_152) (by decide +kernel) rfl [] (by decide +kernel) rfl rfl rfl (Nat.le_of_ble_eq_true rfl) (fun v w2 hv hl2 => ?_)
    obtain ⟨⟨hc3, rfl⟩ | ⟨hc3, rfl⟩, rfl⟩ := hv
    · change G _ _ _ (wFp img w ks ss n who ties su cs sz tl)
      refine hG.1 [] 80 _ _ _ _ ?_
      refine ⟨by omega, fun h3 => ?_, fun h3 => absurd h3 (by omega)⟩
      obtain ⟨k, rfl⟩ := z_nat hc.1
      have hkn : k < n := by omega
      refine hG.2.1 (c_Su_together (w := w)) yv_Su_together lk_Fp_88 (by decide +kernel) rfl rfl [2, 3] (by decide +kernel) rfl rfl rfl (Nat.le_of_ble_eq_true rfl) (fun v w2 hv hl2 => ?_)
      obtain ⟨rfl, rfl⟩ := hv
      change G _ _ _ (wFp img w ks ss n who ties su cs sz tl)
      obtain ⟨t, ht⟩ := z_nat hsum.1
      rw [ht]
      refine hG.1 [] 80 _ _ _ _ ?_
      refine ⟨by omega, fun h4 => ?_, fun h4 => ?_⟩
      · refine hG.2.1 (c_Ta_burden (w := w) (ks := ks) (ss := ss) (n := n) (who := who) (ties := ties) (g := k) hkn hL hS hW) yv_Ta_burden lk_Fp_168 (by decide +kernel) rfl rfl [1, 2, 3, 4, 5, 6] (by decide +kernel) rfl rfl rfl (Nat.le_of_ble_eq_true rfl) (fun v w2 hv hl2 => ?_)
        obtain ⟨rfl, rfl⟩ := hv
        change G _ _ _ (wFp img w ks ss n who ties su cs sz tl)
        have hb := zBu_in (w := w) (ss := ss) (n := n) (who := who) (ties := ties) (g := k) hW
        obtain ⟨b, hbe⟩ := z_nat hb.1
        rw [hbe]
        have e60 : (2 : Nat) ^ 60 = 1152921504606846976 := by decide
        refine hG.1 [] 80 _ _ _ _ ?_
        refine ⟨by omega, ?_⟩
        refine hG.2.2.1 (c_Fp_lowest (t := b) (b := 2520 * t) (part := part) (by omega) (by omega) hc3) ys_Fp_lowest (Or.inl lk_Fp_160) (by decide +kernel) rfl [] (by decide +kernel) rfl rfl rfl (Nat.le_of_ble_eq_true rfl) (fun v w2 hv hl2 => ?_)
        obtain ⟨rfl, rfl⟩ := hv
        change G _ _ _ (wFp img w ks ss n who ties su cs sz tl)
        refine hG.1 [] 80 _ _ _ _ ?_
        exact ⟨trivial, by rw [if_pos ⟨hc, hc3⟩, if_neg (by omega), Int.toNat_natCast, hbe, Int.toNat_natCast, ht, Int.toNat_natCast] <;> rfl, rfl⟩
      · exact ⟨trivial, by rw [if_pos ⟨hc, hc3⟩, if_pos (by omega)], rfl⟩
    · change G _ _ _ (wFp img w ks ss n who ties su cs sz tl)
      refine hG.1 [] 80 _ _ _ _ ?_
      refine ⟨by omega, fun h3 => absurd rfl h3, fun h3 => ?_⟩
      exact ⟨trivial, by rw [if_neg (fun z => hc3 z.2)], rfl⟩
  · change G _ _ _ (wFp img w ks ss n who ties su cs sz tl)
    refine hG.1 [] 80 _ _ _ _ ?_
    refine ⟨by omega, fun h1 => ?_, fun h1 => absurd rfl h1⟩
    exact ⟨trivial, by rw [if_neg (fun z => hc z.1)], rfl⟩
theorem c_Fp_best {g : Int} (hg : -2147483648 ≤ g ∧ g ≤ 2147483647) (hL : zOkL n who ties) (hS : zOkS ss n) (hW : zOkW w) :
    zMet m_Fp_best [.inr (.inr 0), .inl g] (wFp img w ks ss n who ties su cs sz tl) (fun v wd => v = some (.inl (if 0 ≤ g ∧ g < n then (if zSumN w 21 = 0 then -2 else (zLi w ss n who ties g.toNat : Int)) else -1)) ∧ wd = wFp img w ks ss n who ties su cs sz tl) := by
  have hn := hL.1
  have hsum := zSumN_in hW
  refine zMet.of (own := RX6) rfl (by decide +kernel) tk_Fp_best fok_Fp cok_Fp (Nat.le_of_ble_eq_true rfl) (fun G hG => ?_)
  refine hG.1 [] 80 _ _ _ _ ?_
  refine hG.2.1 (c_Co_has hg hn) yv_Co_has lk_Fp_76 (by decide +kernel) rfl rfl [4, 5, 6] (by decide +kernel) rfl rfl rfl (Nat.le_of_ble_eq_true rfl) (fun v w2 hv hl2 => ?_)
  obtain ⟨⟨hc, rfl⟩ | ⟨hc, rfl⟩, rfl⟩ := hv
  · change G _ _ _ (wFp img w ks ss n who ties su cs sz tl)
    refine hG.1 [] 80 _ _ _ _ ?_
    refine ⟨by omega, fun h1 => ?_, fun h1 => absurd h1 (by omega)⟩
    obtain ⟨k, rfl⟩ := z_nat hc.1
    have hkn : k < n := by omega
    refine hG.2.1 (c_Su_together (w := w)) yv_Su_together lk_Fp_88 (by decide +kernel) rfl rfl [2, 3] (by decide +kernel) rfl rfl rfl (Nat.le_of_ble_eq_true rfl) (fun v w2 hv hl2 => ?_)
    obtain ⟨rfl, rfl⟩ := hv
    change G _ _ _ (wFp img w ks ss n who ties su cs sz tl)
    refine hG.1 [] 80 _ _ _ _ ?_
    refine ⟨by omega, fun h4 => ?_, fun h4 => ?_⟩
    · refine hG.2.1 (c_Ta_lightestSlip (w := w) (ks := ks) (ss := ss) (n := n) (who := who) (ties := ties) (g := k) hkn hL hS hW) yv_Ta_lightestSlip lk_Fp_172 (by decide +kernel) rfl rfl [1, 2, 3, 4, 5, 6] (by decide +kernel) rfl rfl rfl (Nat.le_of_ble_eq_true rfl) (fun v w2 hv hl2 => ?_)
      obtain ⟨rfl, rfl⟩ := hv
      change G _ _ _ (wFp img w ks ss n who ties su cs sz tl)
      refine hG.1 [] 80 _ _ _ _ ?_
      exact ⟨trivial, by rw [if_pos hc, if_neg h4, Int.toNat_natCast] <;> rfl, rfl⟩
    · exact ⟨trivial, by rw [if_pos hc, if_pos h4], rfl⟩
  · change G _ _ _ (wFp img w ks ss n who ties su cs sz tl)
    refine hG.1 [] 80 _ _ _ _ ?_
    refine ⟨by omega, fun h1 => absurd rfl h1, fun h1 => ?_⟩
    exact ⟨trivial, by rw [if_neg hc], rfl⟩
theorem c_Fp_still (hL : zOkL n who ties) (hS : zOkS ss n) (hW : zOkW w) (hK : zOkK ks n) :
    zMet m_Fp_still [.inr (.inr 0)] (wFp img w ks ss n who ties su cs sz tl) (fun v wd => ((zSumN w 21 = 0 ∧ v = some (.inl (-2))) ∨ (zSumN w 21 ≠ 0 ∧ z_bool (∀ g : Nat, g < n → zBet w ks ss n who ties g = ss g) v)) ∧ wd = wFp img w ks ss n who ties su cs sz tl) := by
  have hsum := zSumN_in hW
  refine zMet.of (own := RX6) rfl (by decide +kernel) tk_Fp_still fok_Fp cok_Fp (Nat.le_of_ble_eq_true rfl) (fun G hG => ?_)
  refine hG.1 [] 80 _ _ _ _ ?_
  refine hG.2.1 (c_Su_together (w := w)) yv_Su_together lk_Fp_88 (by decide +kernel) rfl rfl [2, 3] (by decide +kernel) rfl rfl rfl (Nat.le_of_ble_eq_true rfl) (fun v w2 hv hl2 => ?_)
  obtain ⟨rfl, rfl⟩ := hv
  change G _ _ _ (wFp img w ks ss n who ties su cs sz tl)
  refine hG.1 [] 80 _ _ _ _ ?_
  refine ⟨by omega, fun h4 => ?_, fun h4 => ?_⟩
  · refine hG.2.1 (c_Ta_nobodyWouldChange (w := w) (ks := ks) (ss := ss) (n := n) (who := who) (ties := ties) hL hS hW hK) yv_Ta_nobodyWouldChange lk_Fp_175 (by decide +kernel) rfl rfl [1, 2, 3, 4, 5, 6] (by decide +kernel) rfl rfl rfl (Nat.le_of_ble_eq_true rfl) (fun v w2 hv hl2 => ?_)
    obtain ⟨⟨hc, rfl⟩ | ⟨hc, rfl⟩, rfl⟩ := hv
    · change G _ _ _ (wFp img w ks ss n who ties su cs sz tl)
      refine hG.1 [] 80 _ _ _ _ ?_
      refine ⟨by omega, fun h5 => absurd h5 (by omega), fun h5 => ?_⟩
      exact ⟨trivial, Or.inr ⟨h4, Or.inl ⟨hc, rfl⟩⟩, rfl⟩
    · change G _ _ _ (wFp img w ks ss n who ties su cs sz tl)
      refine hG.1 [] 80 _ _ _ _ ?_
      refine ⟨by omega, fun h5 => ?_, fun h5 => absurd rfl h5⟩
      exact ⟨trivial, Or.inr ⟨h4, Or.inr ⟨hc, rfl⟩⟩, rfl⟩
  · exact ⟨trivial, Or.inl ⟨h4, rfl⟩, rfl⟩
theorem c_Fp_turns {t : Int} (ht : -2147483648 ≤ t ∧ t ≤ 2147483647) (hL : zOkL n who ties) (hS : zOkS ss n) (hW : zOkW w) (hK : zOkK ks n) :
    zMet m_Fp_turns [.inr (.inr 0), .inl t] (wFp img w ks ss n who ties su cs sz tl) (fun v wd => ((1 ≤ t ∧ t ≤ 40) ∧ zSumN w 21 ≠ 0 ∧ v = some (.inl ((zTk w ks n who ties t.toNat 0 0 0 ss).1 : Int)) ∧ wd = wFp img w ks (zTk w ks n who ties t.toNat 0 0 0 ss).2 n who ties su cs sz tl) ∨ ((1 ≤ t ∧ t ≤ 40) ∧ zSumN w 21 = 0 ∧ v = some (.inl (-2)) ∧ wd = wFp img w ks ss n who ties su cs sz tl) ∨ (¬ (1 ≤ t ∧ t ≤ 40) ∧ v = some (.inl (-1)) ∧ wd = wFp img w ks ss n who ties su cs sz tl)) := by
  have hsum := zSumN_in hW
  refine zMet.of (own := RX6) rfl (by decide +kernel) tk_Fp_turns fok_Fp cok_Fp (Nat.le_of_ble_eq_true rfl) (fun G hG => ?_)
  refine hG.1 [13] 80 _ _ _ _ ?_
  refine ⟨by omega, fun h1 => ?_, fun h1 => ?_⟩
  · exact ⟨trivial, Or.inr (Or.inr ⟨by omega, rfl, rfl⟩)⟩
  · refine ⟨by omega, fun h2 => ?_, fun h2 => ?_⟩
    · refine hG.1 [] 80 _ _ _ _ ?_
      obtain ⟨k, rfl⟩ := z_nat (show 0 ≤ t by omega)
      refine hG.2.1 (c_Su_together (w := w)) yv_Su_together lk_Fp_88 (by decide +kernel) rfl rfl [2, 3] (by decide +kernel) rfl rfl rfl (Nat.le_of_ble_eq_true rfl) (fun v w2 hv hl2 => ?_)
      obtain ⟨rfl, rfl⟩ := hv
      change G _ _ _ (wFp img w ks ss n who ties su cs sz tl)
      refine hG.1 [] 80 _ _ _ _ ?_
      refine ⟨by omega, fun h4 => ?_, fun h4 => ?_⟩
      · refine hG.2.1 (c_Ta_takeTurns (w := w) (ks := ks) (ss := ss) (n := n) (who := who) (ties := ties) (t := k) (by omega) hL hS hW hK) yv_Ta_takeTurns lk_Fp_179 (by decide +kernel) rfl rfl [1, 2, 3, 4, 5, 6] (by decide +kernel) rfl rfl rfl (Nat.le_of_ble_eq_true rfl) (fun v w2 hv hl2 => ?_)
        obtain ⟨rfl, rfl⟩ := hv
        change G _ _ _ (wFp img w ks (zTk w ks n who ties k 0 0 0 ss).2 n who ties su cs sz tl)
        refine hG.1 [] 80 _ _ _ _ ?_
        exact ⟨trivial, Or.inl ⟨by omega, h4, rfl, rfl⟩⟩
      · exact ⟨trivial, Or.inr (Or.inl ⟨by omega, h4, rfl, rfl⟩)⟩
    · exact ⟨trivial, Or.inr (Or.inr ⟨by omega, rfl, rfl⟩)⟩
end Fm
