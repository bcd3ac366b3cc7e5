/-! THE TWO SIDE BY SIDE: texts -/
theorem zByte_p {x : Int} : ∀ (k : Nat) (b : Int → Int) (t : Nat), (∀ j : Nat, j < t → 32 ≤ b j ∧ b j ≤ 126) → (∀ i : Nat, i < k → 32 ≤ zByte x i ∧ zByte x i ≤ 126) → ∀ j : Nat, j < t + k → 32 ≤ zApp x k b t j ∧ zApp x k b t j ≤ 126
  | 0, b, t, h, _, j, hj => h j hj
  | k + 1, b, t, h, hp, j, hj => by
    refine zByte_p k (z_u b t (zByte x k)) (t + 1) (fun i hi => ?_) (fun i hi => hp i (by omega)) j (by omega)
    unfold z_u
    by_cases e : (i : Int) = (t : Int)
    · rw [if_pos e]; exact hp k (by omega)
    · rw [if_neg e]; exact h i (by omega)
def zMlIn (n : Nat) : Nat ⊕ (Int → Int) → Prop
  | .inl f => f ≤ n
  | .inr r => ∀ j : Nat, j < 21 → 0 ≤ r j ∧ r j ≤ 99
theorem zMeal_in {b : Int → Int} {n : Nat} : ∀ (d : Nat) (w : Int → Int) (p : Nat), p ≤ n → (∀ j : Nat, j < 21 → 0 ≤ w j ∧ w j ≤ 99) → zMlIn n (zMeal b n d w p)
  | 0, w, p, hp, _ => hp
  | d + 1, w, p, hp, hw => by
    have hd := zDish_in (b := b) hp hw
    unfold zMeal
    generalize zDish b n w p = R at hd
    cases R with
    | inl f => exact hd.1
    | inr q =>
      obtain ⟨h1, h2⟩ : q.2 ≤ n ∧ ∀ j : Nat, j < 21 → 0 ≤ q.1 j ∧ q.1 j ≤ 99 := hd
      have hs := zSk_in (b := b) h1
      dsimp only
      by_cases a : zSk b n q.2 < n
      · rw [if_neg (fun z => z a)]
        by_cases c : b (zSk b n q.2) = 44 ∧ d ≠ 0
        · rw [if_pos c]
          exact zMeal_in d q.1 _ (by omega) h2
        · rw [if_neg c]; exact hs.2
      · rw [if_pos a]; exact h2
def zTbIn (n : Nat) : Nat ⊕ ((Int → Int) × ((Int → Int) × Nat)) → Prop
  | .inl f => f ≤ n
  | .inr _ => True
theorem zTab_in {b : Int → Int} {n : Nat} : ∀ (d : Nat) (k s : Int → Int) (m p : Nat), p ≤ n → zTbIn n (zTab b n d k s m p)
  | 0, k, s, m, p, hp => hp
  | d + 1, k, s, m, p, hp => by
    have hd := zGst_in (b := b) hp
    unfold zTab
    generalize zGst b n p = R at hd
    cases R with
    | inl f => exact hd.1
    | inr q =>
      have h1 : q.2.2 ≤ n := hd.1
      have hs := zSk_in (b := b) h1
      dsimp only
      by_cases a : zSk b n q.2.2 < n
      · rw [if_neg (fun z => z a)]
        by_cases c : b (zSk b n q.2.2) = 59 ∧ d ≠ 0
        · rw [if_pos c]
          exact zTab_in d _ _ _ _ (by omega)
        · rw [if_neg c]; exact hs.2
      · rw [if_pos a]; exact trivial
theorem d_type {wF wM : zW} {x y : Int} (hx : -9223372036854775808 ≤ x ∧ x ≤ 9223372036854775807) (hy : -2147483648 ≤ y ∧ y ≤ 2147483647) (hI : zInv wF wM) : zDual m_Fp_type m_Mo_type [.inr (.inl x), .inl y] wF wM := by
  obtain ⟨img, w, ks, ss, n, who, ties, su, cs, sz, w', ks', ss', n', who', ties', su', cs', sz', b, tn, tp, fl, rs, rc, sh, w2, ks2, ss2, la, su2, nm, np, ns, tp2, pl, rs2, rd2, lp, ik, kp, km, kn, ln, rz, it, rfl, rfl, hT, hI, hB, hH⟩ := hI
  obtain ⟨hL, ⟨hl0, hl1⟩, ⟨hW, hWa⟩, ⟨hK, hKa⟩, ⟨hS, hSa⟩, hz, hN⟩ := id hT
  have hn := hL.1
  obtain ⟨hte, ht, hb⟩ := id hB
  have hb2 : ∀ j : Nat, j < tn → 32 ≤ tp2 j ∧ tp2 j ≤ 126 := fun j hj => by rw [hte]; exact hb j hj
  refine ⟨_, _, c_Fp_type hy ht, c_Mo_type hx hy ht, fun v wa hv => ?_, fun v wa v2 wb hv hv2 => ?_⟩
  · rcases hv with ⟨_, _, rfl, _⟩ | ⟨_, _, rfl, _⟩ | ⟨_, rfl, _⟩ <;> exact ⟨_, rfl⟩
  · rcases hv with ⟨hc, hd, rfl, rfl⟩ | ⟨hc, hd, rfl, rfl⟩ | ⟨hc, rfl, rfl⟩
    · rcases hv2 with ⟨_, _, rfl, rfl⟩ | ⟨_, he, _, _⟩ | ⟨he, _, _⟩
      · have hB2 : zRB (zApp x y.toNat b tn) (tn + y.toNat) (zApp x y.toNat tp2 tn) := ⟨by rw [hte], by omega, zByte_p y.toNat b tn hb hc.2⟩
        exact ⟨⟨_, by omega, rfl, rfl⟩, ⟨_, _, _, _, _, _, _, _, _, _, _, _, _, _, _, _, _, _, _, _, _, _, _, _, _, _, _, _, _, _, _, _, _, _, _, _, _, _, _, _, _, _, _, _, _, _, rfl, rfl, hT, hI, hB2, hH⟩⟩
      · exact absurd hd he
      · exact absurd hc he
    · rcases hv2 with ⟨_, he, _, _⟩ | ⟨_, _, rfl, rfl⟩ | ⟨he, _, _⟩
      · exact absurd he hd
      · exact ⟨⟨-3, by omega, rfl, rfl⟩, ⟨_, _, _, _, _, _, _, _, _, _, _, _, _, _, _, _, _, _, _, _, _, _, _, _, _, _, _, _, _, _, _, _, _, _, _, _, _, _, _, _, _, _, _, _, _, _, rfl, rfl, hT, hI, hB, hH⟩⟩
      · exact absurd hc he
    · rcases hv2 with ⟨he, _, _, _⟩ | ⟨he, _, _, _⟩ | ⟨_, rfl, rfl⟩
      · exact absurd he hc
      · exact absurd he hc
      · exact ⟨⟨-1, by omega, rfl, rfl⟩, ⟨_, _, _, _, _, _, _, _, _, _, _, _, _, _, _, _, _, _, _, _, _, _, _, _, _, _, _, _, _, _, _, _, _, _, _, _, _, _, _, _, _, _, _, _, _, _, rfl, rfl, hT, hI, hB, hH⟩⟩
theorem d_supper {wF wM : zW}  (hI : zInv wF wM) : zDual m_Fp_supper m_Mo_supper [] wF wM := by
  obtain ⟨img, w, ks, ss, n, who, ties, su, cs, sz, w', ks', ss', n', who', ties', su', cs', sz', b, tn, tp, fl, rs, rc, sh, w2, ks2, ss2, la, su2, nm, np, ns, tp2, pl, rs2, rd2, lp, ik, kp, km, kn, ln, rz, it, rfl, rfl, hT, hI, hB, hH⟩ := hI
  obtain ⟨hL, ⟨hl0, hl1⟩, ⟨hW, hWa⟩, ⟨hK, hKa⟩, ⟨hS, hSa⟩, hz, hN⟩ := id hT
  have hn := hL.1
  obtain ⟨hte, ht, hb⟩ := id hB
  have hb2 : ∀ j : Nat, j < tn → 32 ≤ tp2 j ∧ tp2 j ≤ 126 := fun j hj => by rw [hte]; exact hb j hj
  have hz21 : ∀ j : Nat, j < 21 → zFill rs 21 j = 0 := fun j hj => by unfold zFill; rw [if_pos (by omega)]
  refine ⟨_, _, c_Fp_supper ht hb, c_Mo_supper (W := zFill rs 21) hz21 ht hb2, fun v wa hv => ?_, fun v wa v2 wb hv hv2 => ?_⟩
  · obtain ⟨p2, f2, r2, hQ, ⟨_, rfl, _⟩ | ⟨_, rfl, _⟩⟩ := hv <;> exact ⟨_, rfl⟩
  · obtain ⟨p2, f2, r2, hQ, hv⟩ := hv
    have hm := zMeal_in (b := b) (n := tn) 8 (zFill rs 21) 0 (Nat.zero_le _) (fun j hj => by rw [hz21 j hj]; omega)
    have hB0 : zRB b 0 tp2 := ⟨hte, by omega, fun j hj => absurd hj (Nat.not_lt_zero j)⟩
    rcases hv2 with ⟨f, hf, rfl, r3, p3, rfl⟩ | ⟨q, hf, r3, p3, hA, rfl, rfl⟩
    · rw [hte] at hf
      rw [hf] at hQ hm
      obtain rfl : f2 = -20 - (f : Int) := hQ
      have hm : f ≤ tn := hm
      rcases hv with ⟨_, rfl, rfl⟩ | ⟨he, _, _⟩
      · exact ⟨⟨_, by omega, rfl, rfl⟩, ⟨_, _, _, _, _, _, _, _, _, _, _, _, _, _, _, _, _, _, _, _, _, _, _, _, _, _, _, _, _, _, _, _, _, _, _, _, _, _, _, _, _, _, _, _, _, _, rfl, rfl, hT, hI, hB0, hH⟩⟩
      · exact absurd he (by omega)
    · rw [hte] at hf
      rw [hf] at hQ hm
      obtain ⟨hf2, hr2⟩ : f2 = 0 ∧ r2 = q := hQ
      have hm : ∀ j : Nat, j < 21 → 0 ≤ q j ∧ q j ≤ 99 := hm
      rcases hv with ⟨he, _, _⟩ | ⟨_, rfl, rfl⟩
      · exact absurd hf2 he
      · have hw1 : ∀ j : Nat, j < 21 → z_cpy r2 w 21 j = q j := fun j hj => by rw [zCpy_w j hj, hr2]
        have hw2 : ∀ j : Nat, j < 21 → zMx r3 w2 21 j = q j := fun j hj => by rw [zMx_i hj]; exact hA j hj
        have hW3 : zOkW (z_cpy r2 w 21) := fun j hj => by rw [hw1 j hj]; exact hm j hj
        have hA3 : zAgW (z_cpy r2 w 21) (zMx r3 w2 21) := fun j hj => by rw [hw1 j hj, hw2 j hj]
        have hs := zSumN_in (f := z_cpy r2 w 21) (n := 21) hW3
        exact ⟨⟨_, by omega, rfl, by rw [zSumN_c hA3 21 (Nat.le_refl _)]⟩, ⟨_, _, _, _, _, _, _, _, _, _, _, _, _, _, _, _, _, _, _, _, _, _, _, _, _, _, _, _, _, _, _, _, _, _, _, _, _, _, _, _, _, _, _, _, _, _, rfl, rfl, ⟨hL, ⟨hl0, hl1⟩, ⟨hW3, hA3⟩, ⟨hK, hKa⟩, ⟨hS, hSa⟩, hz, hN⟩, hI, hB0, hH⟩⟩
theorem d_guests {wF wM : zW}  (hI : zInv wF wM) : zDual m_Fp_guests m_Mo_guests [] wF wM := by
  obtain ⟨img, w, ks, ss, n, who, ties, su, cs, sz, w', ks', ss', n', who', ties', su', cs', sz', b, tn, tp, fl, rs, rc, sh, w2, ks2, ss2, la, su2, nm, np, ns, tp2, pl, rs2, rd2, lp, ik, kp, km, kn, ln, rz, it, rfl, rfl, hT, hI, hB, hH⟩ := hI
  obtain ⟨hL, ⟨hl0, hl1⟩, ⟨hW, hWa⟩, ⟨hK, hKa⟩, ⟨hS, hSa⟩, hz, hN⟩ := id hT
  have hn := hL.1
  obtain ⟨hte, ht, hb⟩ := id hB
  have hb2 : ∀ j : Nat, j < tn → 32 ≤ tp2 j ∧ tp2 j ≤ 126 := fun j hj => by rw [hte]; exact hb j hj
  refine ⟨_, _, c_Fp_guests ht hb, c_Mo_guests (K := rc.1) (S := rc.2.1) ht hb2, fun v wa hv => ?_, fun v wa v2 wb hv hv2 => ?_⟩
  · obtain ⟨p2, f2, k2, s2, m2, hQ, ⟨_, rfl, _⟩ | ⟨_, rfl, _⟩⟩ := hv <;> exact ⟨_, rfl⟩
  · obtain ⟨p2, f2, k2, s2, m2, hQ, hv⟩ := hv
    have hm := zTab_in (b := b) (n := tn) 9 rc.1 rc.2.1 0 0 (Nat.zero_le _)
    have hB0 : zRB b 0 tp2 := ⟨hte, by omega, fun j hj => absurd hj (Nat.not_lt_zero j)⟩
    rcases hv2 with ⟨f, hf, rfl, r3, p3, y3, rfl⟩ | ⟨k3, s3, m3, hf, hm9, hO, rfl, r3, p3, rfl⟩
    · rw [hte] at hf
      rw [hf] at hQ hm
      obtain rfl : f2 = -20 - (f : Int) := hQ
      have hm : f ≤ tn := hm
      rcases hv with ⟨_, rfl, rfl⟩ | ⟨he, _, _⟩
      · exact ⟨⟨_, by omega, rfl, rfl⟩, ⟨_, _, _, _, _, _, _, _, _, _, _, _, _, _, _, _, _, _, _, _, _, _, _, _, _, _, _, _, _, _, _, _, _, _, _, _, _, _, _, _, _, _, _, _, _, _, rfl, rfl, hT, hI, hB0, hH⟩⟩
      · exact absurd he (by omega)
    · rw [hte] at hf
      rw [hf] at hQ
      obtain ⟨hf2, hk2, hs2, hm2⟩ : f2 = 0 ∧ k2 = k3 ∧ s2 = s3 ∧ m2 = m3 := hQ
      rcases hv with ⟨he, _, _⟩ | ⟨_, rfl, rfl⟩
      · exact absurd hf2 he
      · rw [hk2, hs2, hm2]
        have hk1 : zAgS m3 (z_cpy k3 ks 9) k3 := zCpy_s hm9
        have hs1 : zAgS m3 (z_cpy s3 ss 9) s3 := zCpy_s hm9
        have hT2 : zRT w (z_cpy k3 ks 9) (z_cpy s3 ss 9) m3 who ties su cs 0 w2 (zMx k3 ks2 m3) (zMx s3 ss2 m3) la su2 nm np ns := ⟨⟨hm9, hL.2⟩, ⟨hl0, hl1⟩, ⟨hW, hWa⟩, ⟨fun j hj => by rw [hk1 j hj]; exact (hO j hj).1, fun j hj => by rw [hk1 j hj, zMx_i hj]⟩, ⟨fun j hj => by rw [hs1 j hj]; exact (hO j hj).2, fun j hj => by rw [hs1 j hj, zMx_i hj]⟩, by omega, zRN_0⟩
        exact ⟨⟨_, by omega, rfl, rfl⟩, ⟨_, _, _, _, _, _, _, _, _, _, _, _, _, _, _, _, _, _, _, _, _, _, _, _, _, _, _, _, _, _, _, _, _, _, _, _, _, _, _, _, _, _, _, _, _, _, rfl, rfl, hT2, hI, hB0, hH⟩⟩
