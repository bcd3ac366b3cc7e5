/-! THE TWO SIDE BY SIDE: guests, laws, counts -/
theorem d_weight {wF wM : zW} {x y : Int} (hx : -2147483648 ≤ x ∧ x ≤ 2147483647) (hy : -2147483648 ≤ y ∧ y ≤ 2147483647) (hI : zInv wF wM) : zDual m_Fp_weight m_Mo_weight [.inl x, .inl y] wF wM := by
  obtain ⟨img, w, ks, ss, n, who, ties, su, cs, sz, w', ks', ss', n', who', ties', su', cs', sz', b, tn, tp, fl, rs, rc, sh, w2, ks2, ss2, la, su2, nm, np, ns, tp2, pl, rs2, rd2, lp, ik, kp, km, kn, ln, rz, it, rfl, rfl, hT, hI, hB, hH⟩ := hI
  obtain ⟨hL, ⟨hl0, hl1⟩, ⟨hW, hWa⟩, ⟨hK, hKa⟩, ⟨hS, hSa⟩, hz, hN⟩ := id hT
  have hn := hL.1
  refine ⟨_, _, c_Fp_weight hx hy, c_Mo_weight hx hy, fun v wa hv => ?_, fun v wa v2 wb hv hv2 => ?_⟩
  · rcases hv with ⟨_, rfl, _⟩ | ⟨_, rfl, _⟩ <;> exact ⟨_, rfl⟩
  · rcases hv with ⟨hc, rfl, rfl⟩ | ⟨hc, rfl, rfl⟩
    · rcases hv2 with ⟨_, rfl, rfl⟩ | ⟨hd, _, _⟩
      · obtain ⟨k, rfl⟩ := z_nat hc.1.1
        have h1 := hWa k (by omega)
        have h2 := hW k (by omega)
        exact ⟨⟨w k, by omega, rfl, by rw [h1]⟩, ⟨_, _, _, _, _, _, _, _, _, _, _, _, _, _, _, _, _, _, _, _, _, _, _, _, _, _, _, _, _, _, _, _, _, _, _, _, _, _, _, _, _, _, _, _, _, _, rfl, rfl, ⟨hL, ⟨hl0, hl1⟩, ⟨zOkW_u hW hc.2, zAgW_u hWa⟩, ⟨hK, hKa⟩, ⟨hS, hSa⟩, hz, hN⟩, hI, hB, hH⟩⟩
      · exact absurd hc hd
    · rcases hv2 with ⟨hd, _, _⟩ | ⟨_, rfl, rfl⟩
      · exact absurd hd hc
      · exact ⟨⟨-1, by omega, rfl, rfl⟩, ⟨_, _, _, _, _, _, _, _, _, _, _, _, _, _, _, _, _, _, _, _, _, _, _, _, _, _, _, _, _, _, _, _, _, _, _, _, _, _, _, _, _, _, _, _, _, _, rfl, rfl, hT, hI, hB, hH⟩⟩
theorem d_guest {wF wM : zW} {x : Int} (hx : -2147483648 ≤ x ∧ x ≤ 2147483647) (hI : zInv wF wM) : zDual m_Fp_guest m_Mo_guest [.inl x] wF wM := by
  obtain ⟨img, w, ks, ss, n, who, ties, su, cs, sz, w', ks', ss', n', who', ties', su', cs', sz', b, tn, tp, fl, rs, rc, sh, w2, ks2, ss2, la, su2, nm, np, ns, tp2, pl, rs2, rd2, lp, ik, kp, km, kn, ln, rz, it, rfl, rfl, hT, hI, hB, hH⟩ := hI
  obtain ⟨hL, ⟨hl0, hl1⟩, ⟨hW, hWa⟩, ⟨hK, hKa⟩, ⟨hS, hSa⟩, hz, hN⟩ := id hT
  have hn := hL.1
  refine ⟨_, _, c_Fp_guest hx hn, c_Mo_guest hx hn, fun v wa hv => ?_, fun v wa v2 wb hv hv2 => ?_⟩
  · rcases hv with ⟨_, _, rfl, _⟩ | ⟨_, _, rfl, _⟩ | ⟨_, rfl, _⟩ <;> exact ⟨_, rfl⟩
  · rcases hv with ⟨hc, h9, rfl, rfl⟩ | ⟨hc, h9, rfl, rfl⟩ | ⟨hc, rfl, rfl⟩
    · rcases hv2 with ⟨_, _, rfl, rfl⟩ | ⟨_, hd, _, _⟩ | ⟨hd, _, _⟩
      · have up : ∀ (f g : Int → Int) (y : Int), zAgS n f g → zAgS (n + 1) (z_u f n y) (z_u g n y) := fun f g y h j hj => by
          unfold z_u
          by_cases e : (j : Int) = (n : Int)
          · rw [if_pos e, if_pos e]
          · rw [if_neg e, if_neg e]; exact h j (by omega)
        have hK3 : zOkK (z_u ks n x) (n + 1) := fun j hj => by
          unfold z_u; split
          · exact hc
          · exact hK j (by omega)
        have hS3 : zOkS (z_u ss n 0) (n + 1) := fun j hj => by
          unfold z_u; split
          · omega
          · exact hS j (by omega)
        exact ⟨⟨n, by omega, rfl, rfl⟩, ⟨_, _, _, _, _, _, _, _, _, _, _, _, _, _, _, _, _, _, _, _, _, _, _, _, _, _, _, _, _, _, _, _, _, _, _, _, _, _, _, _, _, _, _, _, _, _, rfl, rfl, ⟨⟨by omega, hL.2⟩, ⟨hl0, hl1⟩, ⟨hW, hWa⟩, ⟨hK3, up _ _ _ hKa⟩, ⟨hS3, up _ _ _ hSa⟩, hz, zRN_up (Nat.le_succ n) hN⟩, hI, hB, hH⟩⟩
      · exact absurd h9 hd
      · exact absurd hc hd
    · rcases hv2 with ⟨_, hd, _, _⟩ | ⟨_, _, rfl, rfl⟩ | ⟨hd, _, _⟩
      · exact absurd hd h9
      · exact ⟨⟨-3, by omega, rfl, rfl⟩, ⟨_, _, _, _, _, _, _, _, _, _, _, _, _, _, _, _, _, _, _, _, _, _, _, _, _, _, _, _, _, _, _, _, _, _, _, _, _, _, _, _, _, _, _, _, _, _, rfl, rfl, hT, hI, hB, hH⟩⟩
      · exact absurd hc hd
    · rcases hv2 with ⟨hd, _, _, _⟩ | ⟨hd, _, _, _⟩ | ⟨_, rfl, rfl⟩
      · exact absurd hd hc
      · exact absurd hd hc
      · exact ⟨⟨-1, by omega, rfl, rfl⟩, ⟨_, _, _, _, _, _, _, _, _, _, _, _, _, _, _, _, _, _, _, _, _, _, _, _, _, _, _, _, _, _, _, _, _, _, _, _, _, _, _, _, _, _, _, _, _, _, rfl, rfl, hT, hI, hB, hH⟩⟩
theorem d_slip {wF wM : zW} {g x : Int} (hg : -2147483648 ≤ g ∧ g ≤ 2147483647) (hx : -2147483648 ≤ x ∧ x ≤ 2147483647) (hI : zInv wF wM) : zDual m_Fp_slip m_Mo_slip [.inl g, .inl x] wF wM := by
  obtain ⟨img, w, ks, ss, n, who, ties, su, cs, sz, w', ks', ss', n', who', ties', su', cs', sz', b, tn, tp, fl, rs, rc, sh, w2, ks2, ss2, la, su2, nm, np, ns, tp2, pl, rs2, rd2, lp, ik, kp, km, kn, ln, rz, it, rfl, rfl, hT, hI, hB, hH⟩ := hI
  obtain ⟨hL, ⟨hl0, hl1⟩, ⟨hW, hWa⟩, ⟨hK, hKa⟩, ⟨hS, hSa⟩, hz, hN⟩ := id hT
  have hn := hL.1
  refine ⟨_, _, c_Fp_slip hg hx hn hK, c_Mo_slip hg hx hn (fun j hj => by rw [← hKa j hj]; exact hK j hj), fun v wa hv => ?_, fun v wa v2 wb hv hv2 => ?_⟩
  · rcases hv with ⟨_, _, rfl, _⟩ | ⟨_, _, rfl, _⟩ | ⟨_, rfl, _⟩ <;> exact ⟨_, rfl⟩
  · rcases hv with ⟨hc, hd, rfl, rfl⟩ | ⟨hc, hd, rfl, rfl⟩ | ⟨hc, rfl, rfl⟩
    · obtain ⟨k, rfl⟩ := z_nat hc.1.1
      rw [hKa k (by omega)] at hd
      rcases hv2 with ⟨_, _, rfl, rfl⟩ | ⟨_, he, _, _⟩ | ⟨he, _, _⟩
      · exact ⟨⟨-2, by omega, rfl, rfl⟩, ⟨_, _, _, _, _, _, _, _, _, _, _, _, _, _, _, _, _, _, _, _, _, _, _, _, _, _, _, _, _, _, _, _, _, _, _, _, _, _, _, _, _, _, _, _, _, _, rfl, rfl, hT, hI, hB, hH⟩⟩
      · exact absurd hd he
      · exact absurd hc he
    · obtain ⟨k, rfl⟩ := z_nat hc.1.1
      have hsk := hSa k (by omega)
      have hsr := hS k (by omega)
      rw [hKa k (by omega)] at hd
      rcases hv2 with ⟨_, he, _, _⟩ | ⟨_, _, rfl, rfl⟩ | ⟨he, _, _⟩
      · exact absurd he hd
      · exact ⟨⟨ss k, by omega, rfl, by rw [hsk]⟩, ⟨_, _, _, _, _, _, _, _, _, _, _, _, _, _, _, _, _, _, _, _, _, _, _, _, _, _, _, _, _, _, _, _, _, _, _, _, _, _, _, _, _, _, _, _, _, _, rfl, rfl, ⟨hL, ⟨hl0, hl1⟩, ⟨hW, hWa⟩, ⟨hK, hKa⟩, ⟨zOkS_u hS (by omega), zAgS_u hSa⟩, hz, hN⟩, hI, hB, hH⟩⟩
      · exact absurd hc he
    · rcases hv2 with ⟨he, _, _, _⟩ | ⟨he, _, _, _⟩ | ⟨_, rfl, rfl⟩
      · exact absurd he hc
      · exact absurd he hc
      · exact ⟨⟨-1, by omega, rfl, rfl⟩, ⟨_, _, _, _, _, _, _, _, _, _, _, _, _, _, _, _, _, _, _, _, _, _, _, _, _, _, _, _, _, _, _, _, _, _, _, _, _, _, _, _, _, _, _, _, _, _, rfl, rfl, hT, hI, hB, hH⟩⟩
theorem d_write {wF wM : zW} {x : Int} (hx : -2147483648 ≤ x ∧ x ≤ 2147483647) (hI : zInv wF wM) : zDual m_Fp_write m_Mo_write [.inl x] wF wM := by
  obtain ⟨img, w, ks, ss, n, who, ties, su, cs, sz, w', ks', ss', n', who', ties', su', cs', sz', b, tn, tp, fl, rs, rc, sh, w2, ks2, ss2, la, su2, nm, np, ns, tp2, pl, rs2, rd2, lp, ik, kp, km, kn, ln, rz, it, rfl, rfl, hT, hI, hB, hH⟩ := hI
  obtain ⟨hL, ⟨hl0, hl1⟩, ⟨hW, hWa⟩, ⟨hK, hKa⟩, ⟨hS, hSa⟩, hz, hN⟩ := id hT
  have hn := hL.1
  refine ⟨_, _, c_Fp_write hx hn hK hS hW, c_Mo_write hx hn (fun j hj => by rw [← hKa j hj]; exact hK j hj) (fun j hj => by rw [← hSa j hj]; exact hS j hj) (fun j hj => by rw [← hWa j hj]; exact hW j hj), fun v wa hv => ?_, fun v wa v2 wb hv hv2 => ?_⟩
  · rcases hv with ⟨_, _, rfl, _⟩ | ⟨_, _, rfl, _⟩ | ⟨_, rfl, _⟩ <;> exact ⟨_, rfl⟩
  · have e1 := zSumN_c hWa 21 (Nat.le_refl 21)
    have e2 := zMean_c hWa
    have hm := zMean_in hW
    rcases hv with ⟨hc, hd, rfl, rfl⟩ | ⟨hc, hd, rfl, rfl⟩ | ⟨hc, rfl, rfl⟩
    · rw [e1] at hd
      rcases hv2 with ⟨_, _, rfl, rfl⟩ | ⟨_, he, _, _⟩ | ⟨he, _, _⟩
      · exact ⟨⟨-2, by omega, rfl, rfl⟩, ⟨_, _, _, _, _, _, _, _, _, _, _, _, _, _, _, _, _, _, _, _, _, _, _, _, _, _, _, _, _, _, _, _, _, _, _, _, _, _, _, _, _, _, _, _, _, _, rfl, rfl, hT, hI, hB, hH⟩⟩
      · exact absurd hd he
      · exact absurd hc he
    · rw [e1] at hd
      rcases hv2 with ⟨_, he, _, _⟩ | ⟨_, _, rfl, rfl⟩ | ⟨he, _, _⟩
      · exact absurd he hd
      · have hle := zChgN_le ks ss x (zMean w) n
        refine ⟨⟨(zChgN ks ss x (zMean w) n : Int), by omega, rfl, by rw [← e2, zChgN_c hKa hSa x (zMean w) n (Nat.le_refl n)]⟩, ?_⟩
        rw [← e2]
        exact ⟨_, _, _, _, _, _, _, _, _, _, _, _, _, _, _, _, _, _, _, _, _, _, _, _, _, _, _, _, _, _, _, _, _, _, _, _, _, _, _, _, _, _, _, _, _, _, rfl, rfl, ⟨hL, ⟨hl0, hl1⟩, ⟨hW, hWa⟩, ⟨hK, hKa⟩, ⟨zWr_in hS (by omega) hm, zWr_c hKa hSa x (zMean w)⟩, hz, hN⟩, hI, hB, hH⟩
      · exact absurd hc he
    · rcases hv2 with ⟨he, _, _, _⟩ | ⟨he, _, _, _⟩ | ⟨_, rfl, rfl⟩
      · exact absurd he hc
      · exact absurd he hc
      · exact ⟨⟨-1, by omega, rfl, rfl⟩, ⟨_, _, _, _, _, _, _, _, _, _, _, _, _, _, _, _, _, _, _, _, _, _, _, _, _, _, _, _, _, _, _, _, _, _, _, _, _, _, _, _, _, _, _, _, _, _, rfl, rfl, hT, hI, hB, hH⟩⟩
theorem d_told {wF wM : zW} {g x : Int} (hg : -2147483648 ≤ g ∧ g ≤ 2147483647) (hx : -2147483648 ≤ x ∧ x ≤ 2147483647) (hI : zInv wF wM) : zDual m_Fp_told m_Mo_told [.inl g, .inl x] wF wM := by
  obtain ⟨img, w, ks, ss, n, who, ties, su, cs, sz, w', ks', ss', n', who', ties', su', cs', sz', b, tn, tp, fl, rs, rc, sh, w2, ks2, ss2, la, su2, nm, np, ns, tp2, pl, rs2, rd2, lp, ik, kp, km, kn, ln, rz, it, rfl, rfl, hT, hI, hB, hH⟩ := hI
  obtain ⟨hL, ⟨hl0, hl1⟩, ⟨hW, hWa⟩, ⟨hK, hKa⟩, ⟨hS, hSa⟩, hz, hN⟩ := id hT
  have hn := hL.1
  refine ⟨_, _, c_Fp_told hg hx hn, c_Mo_told hg hx hn, fun v wa hv => ?_, fun v wa v2 wb hv hv2 => ?_⟩
  · obtain ⟨rfl, _⟩ := hv; exact ⟨_, rfl⟩
  · obtain ⟨rfl, rfl⟩ := hv
    obtain ⟨rfl, rfl⟩ := hv2
    refine ⟨?_, ⟨_, _, _, _, _, _, _, _, _, _, _, _, _, _, _, _, _, _, _, _, _, _, _, _, _, _, _, _, _, _, _, _, _, _, _, _, _, _, _, _, _, _, _, _, _, _, rfl, rfl, hT, hI, hB, hH⟩⟩
    by_cases c : (0 ≤ g ∧ g < n) ∧ (0 ≤ x ∧ x ≤ 1)
    · rw [if_pos c, if_pos c]
      obtain ⟨k, rfl⟩ := z_nat c.1.1
      have h1 := hKa k (by omega)
      have h2 := hK k (by omega)
      have h3 := hSa k (by omega)
      have h4 := hS k (by omega)
      by_cases e : x = 0
      · rw [if_pos e, if_pos e]; exact ⟨ks k, by omega, rfl, by rw [h1]⟩
      · rw [if_neg e, if_neg e]; exact ⟨ss k, by omega, rfl, by rw [h3]⟩
    · rw [if_neg c, if_neg c]; exact ⟨-1, by omega, rfl, rfl⟩
theorem d_rule {wF wM : zW} {g x : Int} (hg : -2147483648 ≤ g ∧ g ≤ 2147483647) (hx : -2147483648 ≤ x ∧ x ≤ 2147483647) (hI : zInv wF wM) : zDual m_Fp_rule m_Mo_rule [.inl g, .inl x] wF wM := by
  obtain ⟨img, w, ks, ss, n, who, ties, su, cs, sz, w', ks', ss', n', who', ties', su', cs', sz', b, tn, tp, fl, rs, rc, sh, w2, ks2, ss2, la, su2, nm, np, ns, tp2, pl, rs2, rd2, lp, ik, kp, km, kn, ln, rz, it, rfl, rfl, hT, hI, hB, hH⟩ := hI
  obtain ⟨hL, ⟨hl0, hl1⟩, ⟨hW, hWa⟩, ⟨hK, hKa⟩, ⟨hS, hSa⟩, hz, hN⟩ := id hT
  have hn := hL.1
  refine ⟨_, _, c_Fp_rule hg hx, c_Mo_rule hg hx, fun v wa hv => ?_, fun v wa v2 wb hv hv2 => ?_⟩
  · rcases hv with ⟨_, rfl, _⟩ | ⟨_, rfl, _⟩ | ⟨_, _, rfl, _⟩ <;> exact ⟨_, rfl⟩
  · have hl2 := hL.2
    rcases hv with ⟨hc, rfl, rfl⟩ | ⟨hc, rfl, rfl⟩ | ⟨hc, hc2, rfl, rfl⟩
    · rcases hv2 with ⟨_, rfl, rfl⟩ | ⟨he, _, _⟩ | ⟨he, _, _, _⟩
      · exact ⟨⟨who, by omega, rfl, by rw [hl0]⟩, ⟨_, _, _, _, _, _, _, _, _, _, _, _, _, _, _, _, _, _, _, _, _, _, _, _, _, _, _, _, _, _, _, _, _, _, _, _, _, _, _, _, _, _, _, _, _, _, rfl, rfl, ⟨⟨hn, hc.2, hL.2.2⟩, ⟨rfl, hl1⟩, ⟨hW, hWa⟩, ⟨hK, hKa⟩, ⟨hS, hSa⟩, hz, hN⟩, hI, hB, hH⟩⟩
      · exact absurd he.1 (by omega)
      · exact absurd hc he
    · rcases hv2 with ⟨he, _, _⟩ | ⟨_, rfl, rfl⟩ | ⟨_, he, _, _⟩
      · exact absurd he.1 (by omega)
      · exact ⟨⟨ties, by omega, rfl, by rw [hl1]⟩, ⟨_, _, _, _, _, _, _, _, _, _, _, _, _, _, _, _, _, _, _, _, _, _, _, _, _, _, _, _, _, _, _, _, _, _, _, _, _, _, _, _, _, _, _, _, _, _, rfl, rfl, ⟨⟨hn, hL.2.1, hc.2⟩, ⟨hl0, rfl⟩, ⟨hW, hWa⟩, ⟨hK, hKa⟩, ⟨hS, hSa⟩, hz, hN⟩, hI, hB, hH⟩⟩
      · exact absurd hc he
    · rcases hv2 with ⟨he, _, _⟩ | ⟨he, _, _⟩ | ⟨_, _, rfl, rfl⟩
      · exact absurd he hc
      · exact absurd he hc2
      · exact ⟨⟨-1, by omega, rfl, rfl⟩, ⟨_, _, _, _, _, _, _, _, _, _, _, _, _, _, _, _, _, _, _, _, _, _, _, _, _, _, _, _, _, _, _, _, _, _, _, _, _, _, _, _, _, _, _, _, _, _, rfl, rfl, hT, hI, hB, hH⟩⟩
theorem d_count {wF wM : zW} {x : Int} (hx : -2147483648 ≤ x ∧ x ≤ 2147483647) (hI : zInv wF wM) : zDual m_Fp_count m_Mo_count [.inl x] wF wM := by
  obtain ⟨img, w, ks, ss, n, who, ties, su, cs, sz, w', ks', ss', n', who', ties', su', cs', sz', b, tn, tp, fl, rs, rc, sh, w2, ks2, ss2, la, su2, nm, np, ns, tp2, pl, rs2, rd2, lp, ik, kp, km, kn, ln, rz, it, rfl, rfl, hT, hI, hB, hH⟩ := hI
  obtain ⟨hL, ⟨hl0, hl1⟩, ⟨hW, hWa⟩, ⟨hK, hKa⟩, ⟨hS, hSa⟩, hz, hN⟩ := id hT
  have hn := hL.1
  refine ⟨_, _, c_Fp_count hx hW, c_Mo_count hx (fun j hj => by rw [← hWa j hj]; exact hW j hj), fun v wa hv => ?_, fun v wa v2 wb hv hv2 => ?_⟩
  · obtain ⟨rfl, _⟩ := hv; exact ⟨_, rfl⟩
  · obtain ⟨rfl, rfl⟩ := hv
    obtain ⟨rfl, rfl⟩ := hv2
    have e1 := zSumN_c hWa 21 (Nat.le_refl 21)
    have e2 := zPosN_c hWa 21 (Nat.le_refl 21)
    have h1 := zSumN_in hW
    have h2 := zPosN_le w 21
    rw [← e1, ← e2]
    exact ⟨⟨_, by repeat' split
                  all_goals omega, rfl, rfl⟩, ⟨_, _, _, _, _, _, _, _, _, _, _, _, _, _, _, _, _, _, _, _, _, _, _, _, _, _, _, _, _, _, _, _, _, _, _, _, _, _, _, _, _, _, _, _, _, _, rfl, rfl, hT, hI, hB, hH⟩⟩
theorem d_forget {wF wM : zW}  (hI : zInv wF wM) : zDual m_Fp_forget m_Mo_forget [] wF wM := by
  obtain ⟨img, w, ks, ss, n, who, ties, su, cs, sz, w', ks', ss', n', who', ties', su', cs', sz', b, tn, tp, fl, rs, rc, sh, w2, ks2, ss2, la, su2, nm, np, ns, tp2, pl, rs2, rd2, lp, ik, kp, km, kn, ln, rz, it, rfl, rfl, hT, hI, hB, hH⟩ := hI
  obtain ⟨hL, ⟨hl0, hl1⟩, ⟨hW, hWa⟩, ⟨hK, hKa⟩, ⟨hS, hSa⟩, hz, hN⟩ := id hT
  have hn := hL.1
  refine ⟨_, _, c_Fp_forget, c_Mo_forget, fun v wa hv => ?_, fun v wa v2 wb hv hv2 => ?_⟩
  · obtain ⟨rfl, _⟩ := hv; exact ⟨_, rfl⟩
  · obtain ⟨rfl, rfl⟩ := hv
    obtain ⟨rfl, rfl⟩ := hv2
    exact ⟨⟨sz, by omega, rfl, rfl⟩, ⟨_, _, _, _, _, _, _, _, _, _, _, _, _, _, _, _, _, _, _, _, _, _, _, _, _, _, _, _, _, _, _, _, _, _, _, _, _, _, _, _, _, _, _, _, _, _, rfl, rfl, ⟨hL, ⟨hl0, hl1⟩, ⟨hW, hWa⟩, ⟨hK, hKa⟩, ⟨hS, hSa⟩, Nat.zero_le _, zRN_0⟩, hI, hB, hH⟩⟩
