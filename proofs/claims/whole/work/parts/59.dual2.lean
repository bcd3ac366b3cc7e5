/-! THE TWO SIDE BY SIDE: who pays, means, leagues -/
theorem zHs_1 {x : Int} {f : Nat → Int} : ∀ k, -1 ≤ (zHs x f k).1 ∧ (zHs x f k).1 ≤ (k : Int)
  | 0 => by show (-1 : Int) ≤ -1 ∧ (-1 : Int) ≤ 0; omega
  | k + 1 => by
    have h := zHs_1 (x := x) (f := f) k
    unfold zHs
    split
    · dsimp only; omega
    · omega
theorem zDue_in {ss : Int → Int} {n : Nat} {who ties : Int} {g k : Nat} (hk : k ≤ 20) : 0 ≤ zDue ss n who ties g k ∧ zDue ss n who ties g k ≤ 20 * 2520 := by
  have hsh := zSh_in ss n who ties k g (zFree ss n who)
  exact ⟨Int.mul_nonneg (by omega) hsh.1, Int.mul_le_mul (by omega) hsh.2 hsh.1 (by omega)⟩
theorem zTail {a b : Int} (c : Prop) [Decidable c] (h : c → -2147483648 ≤ a ∧ a ≤ 2147483647) (hb : -2147483648 ≤ b ∧ b ≤ 2147483647) : -2147483648 ≤ (if c then a else b) ∧ (if c then a else b) ≤ 2147483647 := by
  by_cases q : c
  · rw [if_pos q]; exact h q
  · rw [if_neg q]; exact hb
theorem d_pay {wF wM : zW} {x : Int} (hx : -2147483648 ≤ x ∧ x ≤ 2147483647) (hI : zInv wF wM) : zDual m_Fp_pay m_Mo_pay [.inl x] wF wM := by
  obtain ⟨img, w, ks, ss, n, who, ties, su, cs, sz, w', ks', ss', n', who', ties', su', cs', sz', b, tn, tp, fl, rs, rc, sh, w2, ks2, ss2, la, su2, nm, np, ns, tp2, pl, rs2, rd2, lp, ik, kp, km, kn, ln, rz, it, rfl, rfl, hT, hI, hB, hH⟩ := hI
  obtain ⟨hL, ⟨hl0, hl1⟩, ⟨hW, hWa⟩, ⟨hK, hKa⟩, ⟨hS, hSa⟩, hz, hN⟩ := id hT
  have hn := hL.1
  have hL2 : zOkL n (la 0) (la 1) := by rw [hl0, hl1]; exact hL
  have hS2 : zOkS ss2 n := fun j hj => by rw [← hSa j hj]; exact hS j hj
  have hW2 : zOkW w2 := fun j hj => by rw [← hWa j hj]; exact hW j hj
  have hK2 : zOkK ks2 n := fun j hj => by rw [← hKa j hj]; exact hK j hj
  have e1 := zSumN_c hWa 21 (Nat.le_refl 21)
  have hsum := zSumN_in hW
  have hwei := zWei21 hW
  refine ⟨_, _, c_Fp_pay hx hL hS, c_Mo_pay hx hL2 hS2, fun v wa hv => ?_, fun v wa v2 wb hv hv2 => ?_⟩
  · obtain ⟨rfl, _⟩ := hv; exact ⟨_, rfl⟩
  · obtain ⟨rfl, rfl⟩ := hv
    obtain ⟨rfl, rfl⟩ := hv2
    have hm := zMask9 (p := zPay ss n who ties x) hn
    rw [hl0, hl1, ← zPay_c hSa]
    exact ⟨⟨_, by repeat' split
                  all_goals omega, rfl, rfl⟩, ⟨_, _, _, _, _, _, _, _, _, _, _, _, _, _, _, _, _, _, _, _, _, _, _, _, _, _, _, _, _, _, _, _, _, _, _, _, _, _, _, _, _, _, _, _, _, _, rfl, rfl, hT, hI, hB, hH⟩⟩
theorem d_pays {wF wM : zW} {g x part : Int} (hg : -2147483648 ≤ g ∧ g ≤ 2147483647) (hx : -2147483648 ≤ x ∧ x ≤ 2147483647) (hp : -2147483648 ≤ part ∧ part ≤ 2147483647) (hI : zInv wF wM) : zDual m_Fp_pays m_Mo_pays [.inl g, .inl x, .inl part] wF wM := by
  obtain ⟨img, w, ks, ss, n, who, ties, su, cs, sz, w', ks', ss', n', who', ties', su', cs', sz', b, tn, tp, fl, rs, rc, sh, w2, ks2, ss2, la, su2, nm, np, ns, tp2, pl, rs2, rd2, lp, ik, kp, km, kn, ln, rz, it, rfl, rfl, hT, hI, hB, hH⟩ := hI
  obtain ⟨hL, ⟨hl0, hl1⟩, ⟨hW, hWa⟩, ⟨hK, hKa⟩, ⟨hS, hSa⟩, hz, hN⟩ := id hT
  have hn := hL.1
  have hL2 : zOkL n (la 0) (la 1) := by rw [hl0, hl1]; exact hL
  have hS2 : zOkS ss2 n := fun j hj => by rw [← hSa j hj]; exact hS j hj
  have hW2 : zOkW w2 := fun j hj => by rw [← hWa j hj]; exact hW j hj
  have hK2 : zOkK ks2 n := fun j hj => by rw [← hKa j hj]; exact hK j hj
  have e1 := zSumN_c hWa 21 (Nat.le_refl 21)
  have hsum := zSumN_in hW
  have hwei := zWei21 hW
  refine ⟨_, _, c_Fp_pays hg hx hp hL hS, c_Mo_pays hg hx hp hL2 hS2, fun v wa hv => ?_, fun v wa v2 wb hv hv2 => ?_⟩
  · obtain ⟨rfl, _⟩ := hv; exact ⟨_, rfl⟩
  · obtain ⟨rfl, rfl⟩ := hv
    obtain ⟨rfl, rfl⟩ := hv2
    rw [hl0, hl1, ← zDue_c hSa]
    refine ⟨⟨_, zTail _ (fun hc => ?_) (by omega), rfl, rfl⟩, ⟨_, _, _, _, _, _, _, _, _, _, _, _, _, _, _, _, _, _, _, _, _, _, _, _, _, _, _, _, _, _, _, _, _, _, _, _, _, _, _, _, _, _, _, _, _, _, rfl, rfl, hT, hI, hB, hH⟩⟩
    have h1 := zDue_in (ss := ss) (n := n) (who := who) (ties := ties) (g := g.toNat) (k := x.toNat) (by omega)
    have h2 := zLow_in (t := (zDue ss n who ties g.toNat x.toNat).toNat) (b := 2520) (part := part) (by omega)
    omega
theorem d_mean {wF wM : zW} {g part : Int} (hg : -2147483648 ≤ g ∧ g ≤ 2147483647) (hp : -2147483648 ≤ part ∧ part ≤ 2147483647) (hI : zInv wF wM) : zDuaL m_Fp_mean m_Mo_mean [.inl g, .inl part] wF wM := by
  obtain ⟨img, w, ks, ss, n, who, ties, su, cs, sz, w', ks', ss', n', who', ties', su', cs', sz', b, tn, tp, fl, rs, rc, sh, w2, ks2, ss2, la, su2, nm, np, ns, tp2, pl, rs2, rd2, lp, ik, kp, km, kn, ln, rz, it, rfl, rfl, hT, hI, hB, hH⟩ := hI
  obtain ⟨hL, ⟨hl0, hl1⟩, ⟨hW, hWa⟩, ⟨hK, hKa⟩, ⟨hS, hSa⟩, hz, hN⟩ := id hT
  have hn := hL.1
  have hL2 : zOkL n (la 0) (la 1) := by rw [hl0, hl1]; exact hL
  have hS2 : zOkS ss2 n := fun j hj => by rw [← hSa j hj]; exact hS j hj
  have hW2 : zOkW w2 := fun j hj => by rw [← hWa j hj]; exact hW j hj
  have hK2 : zOkK ks2 n := fun j hj => by rw [← hKa j hj]; exact hK j hj
  have e1 := zSumN_c hWa 21 (Nat.le_refl 21)
  have hsum := zSumN_in hW
  have hwei := zWei21 hW
  refine ⟨_, _, c_Fp_mean hg hp hL hS hW, c_Mo_mean hg hp hL2 hS2 hW2, fun v wa hv => ?_, fun v wa v2 wb hv hv2 => ?_⟩
  · obtain ⟨rfl, _⟩ := hv; exact ⟨_, rfl⟩
  · obtain ⟨rfl, rfl⟩ := hv
    obtain ⟨rfl, rfl⟩ := hv2
    rw [hl0, hl1, ← zBu_c hSa hWa, ← e1]
    refine ⟨⟨_, ?_, rfl, rfl⟩, ⟨_, _, _, _, _, _, _, _, _, _, _, _, _, _, _, _, _, _, _, _, _, _, _, _, _, _, _, _, _, _, _, _, _, _, _, _, _, _, _, _, _, _, _, _, _, _, rfl, rfl, hT, hI, hB, hH⟩⟩
    by_cases hc : (0 ≤ g ∧ g < n) ∧ (part = 0 ∨ part = 1)
    · rw [if_pos hc]
      by_cases h0 : zSumN w 21 = 0
      · rw [if_pos h0]; omega
      · rw [if_neg h0]
        have h1 := zBu_in (w := w) (ss := ss) (n := n) (who := who) (ties := ties) (g := g.toNat) hW
        have h2 := zLow_in (t := (zBu w ss n who ties g.toNat).toNat) (b := 2520 * (zSumN w 21).toNat) (part := part) (by omega)
        omega
    · rw [if_neg hc]; omega
theorem d_best {wF wM : zW} {g : Int} (hg : -2147483648 ≤ g ∧ g ≤ 2147483647) (hI : zInv wF wM) : zDual m_Fp_best m_Mo_best [.inl g] wF wM := by
  obtain ⟨img, w, ks, ss, n, who, ties, su, cs, sz, w', ks', ss', n', who', ties', su', cs', sz', b, tn, tp, fl, rs, rc, sh, w2, ks2, ss2, la, su2, nm, np, ns, tp2, pl, rs2, rd2, lp, ik, kp, km, kn, ln, rz, it, rfl, rfl, hT, hI, hB, hH⟩ := hI
  obtain ⟨hL, ⟨hl0, hl1⟩, ⟨hW, hWa⟩, ⟨hK, hKa⟩, ⟨hS, hSa⟩, hz, hN⟩ := id hT
  have hn := hL.1
  have hL2 : zOkL n (la 0) (la 1) := by rw [hl0, hl1]; exact hL
  have hS2 : zOkS ss2 n := fun j hj => by rw [← hSa j hj]; exact hS j hj
  have hW2 : zOkW w2 := fun j hj => by rw [← hWa j hj]; exact hW j hj
  have hK2 : zOkK ks2 n := fun j hj => by rw [← hKa j hj]; exact hK j hj
  have e1 := zSumN_c hWa 21 (Nat.le_refl 21)
  have hsum := zSumN_in hW
  have hwei := zWei21 hW
  refine ⟨_, _, c_Fp_best hg hL hS hW, c_Mo_best hg hL2 hS2 hW2, fun v wa hv => ?_, fun v wa v2 wb hv hv2 => ?_⟩
  · obtain ⟨rfl, _⟩ := hv; exact ⟨_, rfl⟩
  · obtain ⟨rfl, rfl⟩ := hv
    obtain ⟨rfl, rfl⟩ := hv2
    rw [hl0, hl1, ← zLi_c hSa hWa, ← e1]
    have hli : zLi w ss n who ties g.toNat ≤ 20 := zAr_le _ _ 21
    exact ⟨⟨_, by repeat' split
                  all_goals omega, rfl, rfl⟩, ⟨_, _, _, _, _, _, _, _, _, _, _, _, _, _, _, _, _, _, _, _, _, _, _, _, _, _, _, _, _, _, _, _, _, _, _, _, _, _, _, _, _, _, _, _, _, _, rfl, rfl, hT, hI, hB, hH⟩⟩
theorem d_still {wF wM : zW}  (hI : zInv wF wM) : zDual m_Fp_still m_Mo_still [] wF wM := by
  obtain ⟨img, w, ks, ss, n, who, ties, su, cs, sz, w', ks', ss', n', who', ties', su', cs', sz', b, tn, tp, fl, rs, rc, sh, w2, ks2, ss2, la, su2, nm, np, ns, tp2, pl, rs2, rd2, lp, ik, kp, km, kn, ln, rz, it, rfl, rfl, hT, hI, hB, hH⟩ := hI
  obtain ⟨hL, ⟨hl0, hl1⟩, ⟨hW, hWa⟩, ⟨hK, hKa⟩, ⟨hS, hSa⟩, hz, hN⟩ := id hT
  have hn := hL.1
  have hL2 : zOkL n (la 0) (la 1) := by rw [hl0, hl1]; exact hL
  have hS2 : zOkS ss2 n := fun j hj => by rw [← hSa j hj]; exact hS j hj
  have hW2 : zOkW w2 := fun j hj => by rw [← hWa j hj]; exact hW j hj
  have hK2 : zOkK ks2 n := fun j hj => by rw [← hKa j hj]; exact hK j hj
  have e1 := zSumN_c hWa 21 (Nat.le_refl 21)
  have hsum := zSumN_in hW
  have hwei := zWei21 hW
  refine ⟨_, _, c_Fp_still hL hS hW hK, c_Mo_still hL2 hS2 hW2 hK2, fun v wa hv => ?_, fun v wa v2 wb hv hv2 => ?_⟩
  · rcases hv.1 with ⟨_, rfl⟩ | ⟨_, ⟨_, rfl⟩ | ⟨_, rfl⟩⟩ <;> exact ⟨_, rfl⟩
  · obtain ⟨hv, rfl⟩ := hv
    obtain ⟨hv2, rfl⟩ := hv2
    refine ⟨?_, ⟨_, _, _, _, _, _, _, _, _, _, _, _, _, _, _, _, _, _, _, _, _, _, _, _, _, _, _, _, _, _, _, _, _, _, _, _, _, _, _, _, _, _, _, _, _, _, rfl, rfl, hT, hI, hB, hH⟩⟩
    have hiff : (∀ g : Nat, g < n → zBet w ks ss n who ties g = ss g) ↔ (∀ g : Nat, g < n → zBet w2 ks2 ss2 n (la 0) (la 1) g = ss2 g) := by
      rw [hl0, hl1]
      exact ⟨fun h g hg => by rw [← zBet_c hKa hSa hWa who ties hg, ← hSa g hg]; exact h g hg, fun h g hg => by rw [zBet_c hKa hSa hWa who ties hg, hSa g hg]; exact h g hg⟩
    rcases hv with ⟨h0, rfl⟩ | ⟨h0, hv⟩
    · rcases hv2 with ⟨_, rfl⟩ | ⟨h2, _⟩
      · exact ⟨-2, by omega, rfl, rfl⟩
      · exact absurd (e1 ▸ h0) h2
    · rcases hv2 with ⟨h2, _⟩ | ⟨_, hv2⟩
      · exact absurd (e1.trans h2) h0
      · rcases hv with ⟨a, rfl⟩ | ⟨a, rfl⟩
        · rcases hv2 with ⟨_, rfl⟩ | ⟨b2, _⟩
          · exact ⟨1, by omega, rfl, rfl⟩
          · exact absurd (hiff.mp a) b2
        · rcases hv2 with ⟨b2, _⟩ | ⟨_, rfl⟩
          · exact absurd (hiff.mpr b2) a
          · exact ⟨0, by omega, rfl, rfl⟩
theorem d_turns {wF wM : zW} {t : Int} (ht : -2147483648 ≤ t ∧ t ≤ 2147483647) (hI : zInv wF wM) : zDual m_Fp_turns m_Mo_turns [.inl t] wF wM := by
  obtain ⟨img, w, ks, ss, n, who, ties, su, cs, sz, w', ks', ss', n', who', ties', su', cs', sz', b, tn, tp, fl, rs, rc, sh, w2, ks2, ss2, la, su2, nm, np, ns, tp2, pl, rs2, rd2, lp, ik, kp, km, kn, ln, rz, it, rfl, rfl, hT, hI, hB, hH⟩ := hI
  obtain ⟨hL, ⟨hl0, hl1⟩, ⟨hW, hWa⟩, ⟨hK, hKa⟩, ⟨hS, hSa⟩, hz, hN⟩ := id hT
  have hn := hL.1
  have hL2 : zOkL n (la 0) (la 1) := by rw [hl0, hl1]; exact hL
  have hS2 : zOkS ss2 n := fun j hj => by rw [← hSa j hj]; exact hS j hj
  have hW2 : zOkW w2 := fun j hj => by rw [← hWa j hj]; exact hW j hj
  have hK2 : zOkK ks2 n := fun j hj => by rw [← hKa j hj]; exact hK j hj
  have e1 := zSumN_c hWa 21 (Nat.le_refl 21)
  have hsum := zSumN_in hW
  have hwei := zWei21 hW
  refine ⟨_, _, c_Fp_turns ht hL hS hW hK, c_Mo_turns ht hL2 hS2 hW2 hK2, fun v wa hv => ?_, fun v wa v2 wb hv hv2 => ?_⟩
  · rcases hv with ⟨_, _, rfl, _⟩ | ⟨_, _, rfl, _⟩ | ⟨_, rfl, _⟩ <;> exact ⟨_, rfl⟩
  · rcases hv with ⟨hc, hd, rfl, rfl⟩ | ⟨hc, hd, rfl, rfl⟩ | ⟨hc, rfl, rfl⟩
    · rw [e1] at hd
      rcases hv2 with ⟨_, _, rfl, rfl⟩ | ⟨_, he, _, _⟩ | ⟨he, _, _⟩
      · rw [hl0, hl1]
        have hk := zTk_c hKa hWa who ties t.toNat 0 0 0 ss ss2 (fun h => h) hSa
        have hi := zTk_in (w := w) (ks := ks) (n := n) (who := who) (ties := ties) t.toNat 0 0 0 ss hS (fun h => h)
        exact ⟨⟨_, by omega, rfl, by rw [← hk.1]⟩, ⟨_, _, _, _, _, _, _, _, _, _, _, _, _, _, _, _, _, _, _, _, _, _, _, _, _, _, _, _, _, _, _, _, _, _, _, _, _, _, _, _, _, _, _, _, _, _, rfl, rfl, ⟨hL, ⟨hl0, hl1⟩, ⟨hW, hWa⟩, ⟨hK, hKa⟩, ⟨hi.2, hk.2⟩, hz, hN⟩, hI, hB, hH⟩⟩
      · exact absurd he hd
      · exact absurd hc he
    · rw [e1] at hd
      rcases hv2 with ⟨_, he, _, _⟩ | ⟨_, _, rfl, rfl⟩ | ⟨he, _, _⟩
      · exact absurd hd he
      · exact ⟨⟨-2, by omega, rfl, rfl⟩, ⟨_, _, _, _, _, _, _, _, _, _, _, _, _, _, _, _, _, _, _, _, _, _, _, _, _, _, _, _, _, _, _, _, _, _, _, _, _, _, _, _, _, _, _, _, _, _, rfl, rfl, hT, hI, hB, hH⟩⟩
      · exact absurd hc he
    · rcases hv2 with ⟨he, _, _, _⟩ | ⟨he, _, _, _⟩ | ⟨_, rfl, rfl⟩
      · exact absurd he hc
      · exact absurd he hc
      · exact ⟨⟨-1, by omega, rfl, rfl⟩, ⟨_, _, _, _, _, _, _, _, _, _, _, _, _, _, _, _, _, _, _, _, _, _, _, _, _, _, _, _, _, _, _, _, _, _, _, _, _, _, _, _, _, _, _, _, _, _, rfl, rfl, hT, hI, hB, hH⟩⟩
theorem d_league {wF wM : zW} {a b0 c x : Int} (ha : -2147483648 ≤ a ∧ a ≤ 2147483647) (hb0 : -2147483648 ≤ b0 ∧ b0 ≤ 2147483647) (hc : -2147483648 ≤ c ∧ c ≤ 2147483647) (hx : -2147483648 ≤ x ∧ x ≤ 2147483647) (hI : zInv wF wM) : zDual m_Fp_league m_Mo_league [.inl a, .inl b0, .inl c, .inl x] wF wM := by
  obtain ⟨img, w, ks, ss, n, who, ties, su, cs, sz, w', ks', ss', n', who', ties', su', cs', sz', b, tn, tp, fl, rs, rc, sh, w2, ks2, ss2, la, su2, nm, np, ns, tp2, pl, rs2, rd2, lp, ik, kp, km, kn, ln, rz, it, rfl, rfl, hT, hI, hB, hH⟩ := hI
  obtain ⟨hL, ⟨hl0, hl1⟩, ⟨hW, hWa⟩, ⟨hK, hKa⟩, ⟨hS, hSa⟩, hz, hN⟩ := id hT
  have hn := hL.1
  have hL2 : zOkL n (la 0) (la 1) := by rw [hl0, hl1]; exact hL
  have hS2 : zOkS ss2 n := fun j hj => by rw [← hSa j hj]; exact hS j hj
  have hW2 : zOkW w2 := fun j hj => by rw [← hWa j hj]; exact hW j hj
  have hK2 : zOkK ks2 n := fun j hj => by rw [← hKa j hj]; exact hK j hj
  have e1 := zSumN_c hWa 21 (Nat.le_refl 21)
  have hsum := zSumN_in hW
  have hwei := zWei21 hW
  refine ⟨_, _, c_Fp_league ha hb0 hc hx hL hS hW, c_Mo_league ha hb0 hc hx hL2 hS2 hW2, fun v wa hv => ?_, fun v wa v2 wb hv hv2 => ?_⟩
  · obtain ⟨rfl, _⟩ := hv; exact ⟨_, rfl⟩
  · obtain ⟨rfl, rfl⟩ := hv
    obtain ⟨rfl, l2, rfl⟩ := hv2
    rw [hl0, hl1, ← zPr_c hSa hWa, ← e1]
    have hlt : zPr w ss n who ties a.toNat b0.toNat c.toNat < 441 := zHp_lt 441 0 0 (-1) rfl (by omega)
    exact ⟨⟨_, by repeat' split
                  all_goals omega, rfl, rfl⟩, ⟨_, _, _, _, _, _, _, _, _, _, _, _, _, _, _, _, _, _, _, _, _, _, _, _, _, _, _, _, _, _, _, _, _, _, _, _, _, _, _, _, _, _, _, _, _, _, rfl, rfl, hT, hI, hB, hH⟩⟩
theorem d_shun {wF wM : zW} {a b0 c : Int} (ha : -2147483648 ≤ a ∧ a ≤ 2147483647) (hb0 : -2147483648 ≤ b0 ∧ b0 ≤ 2147483647) (hc : -2147483648 ≤ c ∧ c ≤ 2147483647) (hI : zInv wF wM) : zDual m_Fp_shun m_Mo_shun [.inl a, .inl b0, .inl c] wF wM := by
  obtain ⟨img, w, ks, ss, n, who, ties, su, cs, sz, w', ks', ss', n', who', ties', su', cs', sz', b, tn, tp, fl, rs, rc, sh, w2, ks2, ss2, la, su2, nm, np, ns, tp2, pl, rs2, rd2, lp, ik, kp, km, kn, ln, rz, it, rfl, rfl, hT, hI, hB, hH⟩ := hI
  obtain ⟨hL, ⟨hl0, hl1⟩, ⟨hW, hWa⟩, ⟨hK, hKa⟩, ⟨hS, hSa⟩, hz, hN⟩ := id hT
  have hn := hL.1
  have hL2 : zOkL n (la 0) (la 1) := by rw [hl0, hl1]; exact hL
  have hS2 : zOkS ss2 n := fun j hj => by rw [← hSa j hj]; exact hS j hj
  have hW2 : zOkW w2 := fun j hj => by rw [← hWa j hj]; exact hW j hj
  have hK2 : zOkK ks2 n := fun j hj => by rw [← hKa j hj]; exact hK j hj
  have e1 := zSumN_c hWa 21 (Nat.le_refl 21)
  have hsum := zSumN_in hW
  have hwei := zWei21 hW
  refine ⟨_, _, c_Fp_shun ha hb0 hc hL hS hW, c_Mo_shun ha hb0 hc hL2 hS2 hW2, fun v wa hv => ?_, fun v wa v2 wb hv hv2 => ?_⟩
  · obtain ⟨rfl, _⟩ := hv; exact ⟨_, rfl⟩
  · obtain ⟨rfl, rfl⟩ := hv
    obtain ⟨rfl, l2, rfl⟩ := hv2
    rw [hl0, hl1, ← zSf_c hSa hWa, ← e1]
    have hlt := (zSf_in (w := w) (ss := ss) (n := n) (who := who) (ties := ties) (a := a.toNat) (b := b0.toNat) (c := c.toNat) hW 21).1
    exact ⟨⟨_, by repeat' split
                  all_goals omega, rfl, rfl⟩, ⟨_, _, _, _, _, _, _, _, _, _, _, _, _, _, _, _, _, _, _, _, _, _, _, _, _, _, _, _, _, _, _, _, _, _, _, _, _, _, _, _, _, _, _, _, _, _, rfl, rfl, hT, hI, hB, hH⟩⟩
theorem d_host {wF wM : zW} {x g : Int} (hx : -2147483648 ≤ x ∧ x ≤ 2147483647) (hg : -2147483648 ≤ g ∧ g ≤ 2147483647) (hI : zInv wF wM) : zDual m_Fp_host m_Mo_host [.inl x, .inl g] wF wM := by
  obtain ⟨img, w, ks, ss, n, who, ties, su, cs, sz, w', ks', ss', n', who', ties', su', cs', sz', b, tn, tp, fl, rs, rc, sh, w2, ks2, ss2, la, su2, nm, np, ns, tp2, pl, rs2, rd2, lp, ik, kp, km, kn, ln, rz, it, rfl, rfl, hT, hI, hB, hH⟩ := hI
  obtain ⟨hL, ⟨hl0, hl1⟩, ⟨hW, hWa⟩, ⟨hK, hKa⟩, ⟨hS, hSa⟩, hz, hN⟩ := id hT
  have hn := hL.1
  have hL2 : zOkL n (la 0) (la 1) := by rw [hl0, hl1]; exact hL
  have hS2 : zOkS ss2 n := fun j hj => by rw [← hSa j hj]; exact hS j hj
  have hW2 : zOkW w2 := fun j hj => by rw [← hWa j hj]; exact hW j hj
  have hK2 : zOkK ks2 n := fun j hj => by rw [← hKa j hj]; exact hK j hj
  have e1 := zSumN_c hWa 21 (Nat.le_refl 21)
  have hsum := zSumN_in hW
  have hwei := zWei21 hW
  refine ⟨_, _, c_Fp_host hx hg hL hS, c_Mo_host hx hg hL2 hS2, fun v wa hv => ?_, fun v wa v2 wb hv hv2 => ?_⟩
  · obtain ⟨rfl, _⟩ := hv; exact ⟨_, rfl⟩
  · obtain ⟨rfl, rfl⟩ := hv
    obtain ⟨rfl, rfl⟩ := hv2
    rw [hl0, hl1, ← zDue_c hSa]
    have h1 := zHs_1 (x := x) (f := zDue ss n who ties g.toNat) 21
    exact ⟨⟨_, by repeat' split
                  all_goals omega, rfl, rfl⟩, ⟨_, _, _, _, _, _, _, _, _, _, _, _, _, _, _, _, _, _, _, _, _, _, _, _, _, _, _, _, _, _, _, _, _, _, _, _, _, _, _, _, _, _, _, _, _, _, rfl, rfl, hT, hI, hB, hH⟩⟩
theorem d_choice {wF wM : zW} {x : Int} (hx : -2147483648 ≤ x ∧ x ≤ 2147483647) (hI : zInv wF wM) : zDual m_Fp_choice m_Mo_choice [.inl x] wF wM := by
  obtain ⟨img, w, ks, ss, n, who, ties, su, cs, sz, w', ks', ss', n', who', ties', su', cs', sz', b, tn, tp, fl, rs, rc, sh, w2, ks2, ss2, la, su2, nm, np, ns, tp2, pl, rs2, rd2, lp, ik, kp, km, kn, ln, rz, it, rfl, rfl, hT, hI, hB, hH⟩ := hI
  obtain ⟨hL, ⟨hl0, hl1⟩, ⟨hW, hWa⟩, ⟨hK, hKa⟩, ⟨hS, hSa⟩, hz, hN⟩ := id hT
  have hn := hL.1
  have hL2 : zOkL n (la 0) (la 1) := by rw [hl0, hl1]; exact hL
  have hS2 : zOkS ss2 n := fun j hj => by rw [← hSa j hj]; exact hS j hj
  have hW2 : zOkW w2 := fun j hj => by rw [← hWa j hj]; exact hW j hj
  have hK2 : zOkK ks2 n := fun j hj => by rw [← hKa j hj]; exact hK j hj
  have e1 := zSumN_c hWa 21 (Nat.le_refl 21)
  have hsum := zSumN_in hW
  have hwei := zWei21 hW
  refine ⟨_, _, c_Fp_choice hx hL hS, c_Mo_choice hx hL2 hS2, fun v wa hv => ?_, fun v wa v2 wb hv hv2 => ?_⟩
  · obtain ⟨rfl, _⟩ := hv; exact ⟨_, rfl⟩
  · obtain ⟨rfl, rfl⟩ := hv
    obtain ⟨rfl, rfl⟩ := hv2
    rw [hl0, hl1, ← zChM_c hSa]
    have h1 := zPop_9 _ (zChM_lt (x := x) (ss := ss) (who := who) (ties := ties) hn 21)
    exact ⟨⟨_, by repeat' split
                  all_goals omega, rfl, rfl⟩, ⟨_, _, _, _, _, _, _, _, _, _, _, _, _, _, _, _, _, _, _, _, _, _, _, _, _, _, _, _, _, _, _, _, _, _, _, _, _, _, _, _, _, _, _, _, _, _, rfl, rfl, hT, hI, hB, hH⟩⟩
