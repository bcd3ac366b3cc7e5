/-! THE TWO SIDE BY SIDE: sheets -/
theorem zZr_at (it : Int → Int) (b : Int) : ∀ (k : Nat) (j : Int), zZr it b k j = if b ≤ j ∧ j < b + k then 0 else it j
  | 0, j => by
    show it j = _
    rw [if_neg (by omega)]
  | k + 1, j => by
    have h := zZr_at it b k j
    show z_u (zZr it b k) (b + k) 0 j = _
    unfold z_u
    by_cases e : j = b + k
    · rw [if_pos e, if_pos (by omega)]
    · rw [if_neg e, h]
      by_cases c : b ≤ j ∧ j < b + k
      · rw [if_pos c, if_pos (by omega)]
      · rw [if_neg c, if_neg (by omega)]
theorem zFlm_at (it : Int → Int) (b : Int) (ss : Int → Int) : ∀ (k : Nat) (j : Int), zFlm it b ss k j = if b ≤ j ∧ j < b + k then ss (j - b) else it j
  | 0, j => by
    show it j = _
    rw [if_neg (by omega)]
  | k + 1, j => by
    have h := zFlm_at it b ss k j
    show z_u (zFlm it b ss k) (b + k) (ss k) j = _
    unfold z_u
    by_cases e : j = b + k
    · rw [if_pos e, if_pos (by omega), show j - b = (k : Int) by omega]
    · rw [if_neg e, h]
      by_cases c : b ≤ j ∧ j < b + k
      · rw [if_pos c, if_pos (by omega)]
      · rw [if_neg c, if_neg (by omega)]
theorem zFilm_at (it : Int → Int) (b : Int) (ss : Int → Int) (lane : Int) : ∀ (k : Nat) (j : Int), zFilm it b ss lane k j = if b ≤ j ∧ j < b + k then zNar lane (ss (j - b)) else it j
  | 0, j => by
    show it j = _
    rw [if_neg (by omega)]
  | k + 1, j => by
    have h := zFilm_at it b ss lane k j
    show z_u (zFilm it b ss lane k) (b + k) (zNar lane (ss k)) j = _
    unfold z_u
    by_cases e : j = b + k
    · rw [if_pos e, if_pos (by omega), show j - b = (k : Int) by omega]
    · rw [if_neg e, h]
      by_cases c : b ≤ j ∧ j < b + k
      · rw [if_pos c, if_pos (by omega)]
      · rw [if_neg c, if_neg (by omega)]
theorem zNar_s {lane x : Int} (h : 0 ≤ x ∧ x ≤ 20) : zNar lane x = x := by
  unfold zNar
  rw [Int.bmod_def, Int.bmod_def]
  repeat' split
  all_goals omega
theorem zNar_in {lane x : Int} (h : -9223372036854775808 ≤ x ∧ x ≤ 9223372036854775807) : -9223372036854775808 ≤ zNar lane x ∧ zNar lane x ≤ 9223372036854775807 := by
  unfold zNar
  rw [Int.bmod_def, Int.bmod_def]
  repeat' split
  all_goals omega
theorem zRH_upd {sh : Nat → zSD} {ln rz it it2 : Int → Int} {k : Nat} {s : zSD} {l r : Int} (h : zRH sh ln rz it) (hk : k < 4) (hs : zOkH s) (hl : -1 ≤ l ∧ l ≤ 2) (hr : 0 ≤ r ∧ r ≤ 24) (h1 : zRH1 s l r it2 k) (hit : ∀ j : Int, (j < 24 * (k : Int) ∨ 24 * (k : Int) + 24 ≤ j) → it2 j = it j) (hlg : ∀ j : Int, -9223372036854775808 ≤ it2 j ∧ it2 j ≤ 9223372036854775807) : zRH (z_us sh k s) (z_u ln k l) (z_u rz k r) it2 := by
  refine ⟨fun i hi => ?_, hlg⟩
  by_cases e : i = k
  · subst e
    have e1 : z_us sh i s i = s := by unfold z_us; rw [if_pos rfl]
    have e2 : ∀ (f : Int → Int) (y : Int), z_u f i y i = y := fun f y => by unfold z_u; rw [if_pos rfl]
    rw [e1, e2, e2]
    exact ⟨hs, ⟨hl, hr⟩, h1⟩
  · have e1 : z_us sh k s i = sh i := by unfold z_us; rw [if_neg e]
    have e2 : ∀ (f : Int → Int) (y : Int), z_u f k y i = f i := fun f y => by unfold z_u; rw [if_neg (by omega)]
    rw [e1, e2, e2]
    obtain ⟨a1, a2, a3⟩ := h.1 i hi
    refine ⟨a1, a2, ?_⟩
    rcases a3 with a3 | ⟨b1, b2, b3, b4⟩
    · exact Or.inl a3
    · refine Or.inr ⟨b1, b2, b3, fun j hj => ?_⟩
      have h24 := a1.2.1
      rw [hit _ (by omega)]
      exact b4 j hj
theorem zRef_Lk {sh : Nat → zSD} {ln rz it : Int → Int} {k : Nat} {l y m : Int} (h : zRH sh ln rz it) (hk : k < 4) (hl : 0 ≤ l ∧ l ≤ 2) : zRef (sh k).2.1 (sh k).2.2 l y m = zLk ln rz k l y m := by
  obtain ⟨a1, a2, a3⟩ := h.1 k hk
  unfold zRef zLk
  rcases a3 with ⟨b1, b2⟩ | ⟨b1, b2, b3, _⟩
  · rw [if_pos b1, if_neg (by omega), if_neg (by omega)]
  · rw [if_neg b1]
    by_cases c : l = (sh k).2.1
    · rw [if_neg (show ¬ l ≠ (sh k).2.1 from fun z => z c), if_pos (show ln k = l by omega)]
      by_cases d : y < 0 ∨ (sh k).2.2 - m < y
      · rw [if_pos d, if_neg (by omega)]
      · rw [if_neg d, if_pos (by omega)]
    · have := a1.1
      rw [if_pos c, if_neg (by omega), if_pos (by omega)]
theorem zAllW_c {f g : Int → Int} {a b : Int} {m : Nat} (h : ∀ k : Nat, k < m → f (a + k) = g (b + k)) : zAllW f a m ↔ zAllW g b m := ⟨fun q k hk => by rw [← h k hk]; exact q k hk, fun q k hk => by rw [h k hk]; exact q k hk⟩
theorem zWtS_c {f g : Int → Int} {a b : Int} : ∀ {m : Nat}, (∀ k : Nat, k < m → f (a + k) = g (b + k)) → zWtS f a m = zWtS g b m
  | 0, _ => rfl
  | m + 1, h => by
    have h1 := zWtS_c (m := m) (fun k hk => h k (by omega))
    unfold zWtS
    rw [h1, h m (by omega)]
theorem zMxN_c {f g : Int → Int} {a b : Int} {q : Nat → Int} : ∀ {m : Nat}, (∀ k : Nat, k < m → f (a + k) = g (b + k)) → zMxN f a q m = zMxN g b q m
  | 0, _ => rfl
  | m + 1, h => by
    have h1 := zMxN_c (q := q) (m := m) (fun k hk => h k (by omega))
    unfold zMxN
    rw [h1, h m (by omega)]
theorem d_sheet {wF wM : zW} {x l y : Int} (hx : -2147483648 ≤ x ∧ x ≤ 2147483647) (hl : -2147483648 ≤ l ∧ l ≤ 2147483647) (hy : -2147483648 ≤ y ∧ y ≤ 2147483647) (hI : zInv wF wM) : zDual m_Fp_sheet m_Mo_sheet [.inl x, .inl l, .inl y] wF wM := by
  obtain ⟨img, w, ks, ss, n, who, ties, su, cs, sz, w', ks', ss', n', who', ties', su', cs', sz', b, tn, tp, fl, rs, rc, sh, w2, ks2, ss2, la, su2, nm, np, ns, tp2, pl, rs2, rd2, lp, ik, kp, km, kn, ln, rz, it, rfl, rfl, hT, hI, hB, hH⟩ := hI
  obtain ⟨hL, ⟨hl0, hl1⟩, ⟨hW, hWa⟩, ⟨hK, hKa⟩, ⟨hS, hSa⟩, hz, hN⟩ := id hT
  have hn := hL.1
  refine ⟨_, _, c_Fp_sheet hx hl hy, c_Mo_sheet hx hl hy, fun v wa hv => ?_, fun v wa v2 wb hv hv2 => ?_⟩
  · rcases hv with ⟨_, _, rfl, _⟩ | ⟨_, _, rfl, _⟩ | ⟨_, rfl, _⟩ <;> exact ⟨_, rfl⟩
  · rcases hv with ⟨hc, hd, rfl, rfl⟩ | ⟨hc, hd, rfl, rfl⟩ | ⟨hc, rfl, rfl⟩
    · rcases hv2 with ⟨_, _, rfl, rfl⟩ | ⟨_, he, _, _⟩ | ⟨he, _, _⟩
      · obtain ⟨k, rfl⟩ := z_nat hc.1.1
        rw [Int.toNat_natCast]
        have hk4 : k < 4 := by omega
        obtain ⟨a1, a2, a3⟩ := hH.1 k hk4
        have hz24 : ∀ j : Int, zFill (sh k).1 24 j = if 0 ≤ j ∧ j < 24 then 0 else (sh k).1 j := fun j => rfl
        have hH2 : zRH (z_us sh k (zFill (sh k).1 24, (l, y))) (z_u ln k l) (z_u rz k y) (zZr it (24 * k) 24) := by
          refine zRH_upd hH hk4 ⟨hc.2.1, ⟨by dsimp only; omega, hc.2.2⟩, fun j => ?_⟩ (by omega) (by omega) (Or.inr ⟨by dsimp only; omega, rfl, rfl, fun j hj => ?_⟩) (fun j hj => by rw [zZr_at, if_neg (by omega)]) (fun j => ?_)
          · show -9223372036854775808 ≤ zFill (sh k).1 24 j ∧ zFill (sh k).1 24 j ≤ 9223372036854775807
            rw [hz24]
            have := a1.2.2 j
            split
            · omega
            · exact this
          · have hj : (j : Int) < y := hj
            rw [zZr_at, if_pos (by omega)]
            show 0 = zFill (sh k).1 24 j
            rw [hz24, if_pos (by omega)]
          · rw [zZr_at]
            have := hH.2 j
            split
            · omega
            · exact this
        exact ⟨⟨y, by omega, rfl, rfl⟩, ⟨_, _, _, _, _, _, _, _, _, _, _, _, _, _, _, _, _, _, _, _, _, _, _, _, _, _, _, _, _, _, _, _, _, _, _, _, _, _, _, _, _, _, _, _, _, _, rfl, rfl, hT, hI, hB, hH2⟩⟩
      · exact absurd he (by omega)
      · exact absurd ⟨⟨hc.1, hc.2.1⟩, hc.2.2⟩ he
    · rcases hv2 with ⟨_, he, _, _⟩ | ⟨_, _, rfl, rfl⟩ | ⟨he, _, _⟩
      · exact absurd he (by omega)
      · exact ⟨⟨-14, by omega, rfl, rfl⟩, ⟨_, _, _, _, _, _, _, _, _, _, _, _, _, _, _, _, _, _, _, _, _, _, _, _, _, _, _, _, _, _, _, _, _, _, _, _, _, _, _, _, _, _, _, _, _, _, rfl, rfl, hT, hI, hB, hH⟩⟩
      · exact absurd ⟨⟨hc.1, hc.2.1⟩, hc.2.2⟩ he
    · rcases hv2 with ⟨he, _, _, _⟩ | ⟨he, _, _, _⟩ | ⟨_, rfl, rfl⟩
      · exact absurd ⟨he.1.1, he.1.2, he.2⟩ hc
      · exact absurd ⟨he.1.1, he.1.2, he.2⟩ hc
      · exact ⟨⟨-1, by omega, rfl, rfl⟩, ⟨_, _, _, _, _, _, _, _, _, _, _, _, _, _, _, _, _, _, _, _, _, _, _, _, _, _, _, _, _, _, _, _, _, _, _, _, _, _, _, _, _, _, _, _, _, _, rfl, rfl, hT, hI, hB, hH⟩⟩
theorem d_drop {wF wM : zW} {x : Int} (hx : -2147483648 ≤ x ∧ x ≤ 2147483647) (hI : zInv wF wM) : zDual m_Fp_drop m_Mo_drop [.inl x] wF wM := by
  obtain ⟨img, w, ks, ss, n, who, ties, su, cs, sz, w', ks', ss', n', who', ties', su', cs', sz', b, tn, tp, fl, rs, rc, sh, w2, ks2, ss2, la, su2, nm, np, ns, tp2, pl, rs2, rd2, lp, ik, kp, km, kn, ln, rz, it, rfl, rfl, hT, hI, hB, hH⟩ := hI
  obtain ⟨hL, ⟨hl0, hl1⟩, ⟨hW, hWa⟩, ⟨hK, hKa⟩, ⟨hS, hSa⟩, hz, hN⟩ := id hT
  have hn := hL.1
  have h1 : ∀ i : Nat, i < 4 → -1 ≤ ln i ∧ ln i ≤ 2 := fun i hi => (hH.1 i hi).2.1.1
  have h2 : ∀ i : Nat, i < 4 → 0 ≤ rz i ∧ rz i ≤ 24 := fun i hi => (hH.1 i hi).2.1.2
  have hOk : ∀ i : Nat, i < 4 → zOkH (sh i) := fun i hi => (hH.1 i hi).1
  refine ⟨_, _, c_Fp_drop hx hOk, c_Mo_drop hx h1, fun v wa hv => ?_, fun v wa v2 wb hv hv2 => ?_⟩
  · rcases hv with ⟨_, _, rfl, _⟩ | ⟨_, _, rfl, _⟩ | ⟨_, rfl, _⟩ <;> exact ⟨_, rfl⟩
  · rcases hv with ⟨hc, hd, rfl, rfl⟩ | ⟨hc, hd, rfl, rfl⟩ | ⟨hc, rfl, rfl⟩
    · obtain ⟨k, rfl⟩ := z_nat hc.1
      rw [Int.toNat_natCast] at hd ⊢
      have hk4 : k < 4 := by omega
      obtain ⟨a1, a2, a3⟩ := hH.1 k hk4
      have hb1 := a1.1
      have hb2 := a1.2.1
      rcases a3 with ⟨b1, _⟩ | ⟨b1, b2, b3, b4⟩
      · exact absurd b1 hd
      · rcases hv2 with ⟨_, _, rfl, rfl⟩ | ⟨_, he, _, _⟩ | ⟨he, _, _⟩
        · have hH2 : zRH (z_us sh k ((sh k).1, ((sh k).2.1, -1))) (z_u ln k (-1)) (z_u rz k (rz k)) it := zRH_upd hH hk4 ⟨a1.1, by dsimp only; omega, a1.2.2⟩ (by omega) a2.2 (Or.inl ⟨rfl, rfl⟩) (fun j _ => rfl) hH.2
          rw [z_u_self] at hH2
          exact ⟨⟨(sh k).2.2, by omega, rfl, by rw [b3]⟩, ⟨_, _, _, _, _, _, _, _, _, _, _, _, _, _, _, _, _, _, _, _, _, _, _, _, _, _, _, _, _, _, _, _, _, _, _, _, _, _, _, _, _, _, _, _, _, _, rfl, rfl, hT, hI, hB, hH2⟩⟩
        · exact absurd he (by omega)
        · exact absurd hc he
    · obtain ⟨k, rfl⟩ := z_nat hc.1
      rw [Int.toNat_natCast] at hd
      obtain ⟨a1, a2, a3⟩ := hH.1 k (by omega)
      have hb1 := a1.1
      rcases a3 with ⟨b1, b2⟩ | ⟨b1, _⟩
      · rcases hv2 with ⟨_, he, _, _⟩ | ⟨_, _, rfl, rfl⟩ | ⟨he, _, _⟩
        · exact absurd he (by omega)
        · exact ⟨⟨-11, by omega, rfl, rfl⟩, ⟨_, _, _, _, _, _, _, _, _, _, _, _, _, _, _, _, _, _, _, _, _, _, _, _, _, _, _, _, _, _, _, _, _, _, _, _, _, _, _, _, _, _, _, _, _, _, rfl, rfl, hT, hI, hB, hH⟩⟩
        · exact absurd hc he
      · exact absurd hd b1
    · rcases hv2 with ⟨he, _, _, _⟩ | ⟨he, _, _, _⟩ | ⟨_, rfl, rfl⟩
      · exact absurd he hc
      · exact absurd he hc
      · exact ⟨⟨-1, by omega, rfl, rfl⟩, ⟨_, _, _, _, _, _, _, _, _, _, _, _, _, _, _, _, _, _, _, _, _, _, _, _, _, _, _, _, _, _, _, _, _, _, _, _, _, _, _, _, _, _, _, _, _, _, rfl, rfl, hT, hI, hB, hH⟩⟩
theorem d_item {wF wM : zW} {x l y u : Int} (hx : -2147483648 ≤ x ∧ x ≤ 2147483647) (hl : -2147483648 ≤ l ∧ l ≤ 2147483647) (hy : -2147483648 ≤ y ∧ y ≤ 2147483647) (hu : -9223372036854775808 ≤ u ∧ u ≤ 9223372036854775807) (hI : zInv wF wM) : zDual m_Fp_item m_Mo_item [.inl x, .inl l, .inl y, .inr (.inl u)] wF wM := by
  obtain ⟨img, w, ks, ss, n, who, ties, su, cs, sz, w', ks', ss', n', who', ties', su', cs', sz', b, tn, tp, fl, rs, rc, sh, w2, ks2, ss2, la, su2, nm, np, ns, tp2, pl, rs2, rd2, lp, ik, kp, km, kn, ln, rz, it, rfl, rfl, hT, hI, hB, hH⟩ := hI
  obtain ⟨hL, ⟨hl0, hl1⟩, ⟨hW, hWa⟩, ⟨hK, hKa⟩, ⟨hS, hSa⟩, hz, hN⟩ := id hT
  have hn := hL.1
  have h1 : ∀ i : Nat, i < 4 → -1 ≤ ln i ∧ ln i ≤ 2 := fun i hi => (hH.1 i hi).2.1.1
  have h2 : ∀ i : Nat, i < 4 → 0 ≤ rz i ∧ rz i ≤ 24 := fun i hi => (hH.1 i hi).2.1.2
  have hOk : ∀ i : Nat, i < 4 → zOkH (sh i) := fun i hi => (hH.1 i hi).1
  refine ⟨_, _, c_Fp_item hx hl hy hOk, c_Mo_item hx hl hy h1 h2, fun v wa hv => ?_, fun v wa v2 wb hv hv2 => ?_⟩
  · rcases hv with ⟨_, _, rfl, _⟩ | ⟨_, _, rfl, _⟩ | ⟨_, rfl, _⟩ <;> exact ⟨_, rfl⟩
  · rcases hv with ⟨hc, hd, rfl, rfl⟩ | ⟨hc, hd, rfl, rfl⟩ | ⟨hc, rfl, rfl⟩
    · obtain ⟨k, rfl⟩ := z_nat hc.1.1
      rw [Int.toNat_natCast] at hd ⊢
      have hk4 : k < 4 := by omega
      have hrl := zRef_Lk (y := y) (m := 1) hH hk4 hc.2
      have hr0 := zRef_0 hd
      rw [hrl] at hd
      rcases hv2 with ⟨_, _, rfl, rfl⟩ | ⟨_, he, _, _⟩ | ⟨he, _, _⟩
      · obtain ⟨a1, a2, a3⟩ := hH.1 k hk4
        have hb2 := a1.2.1
        rcases a3 with ⟨b1, _⟩ | ⟨b1, b2, b3, b4⟩
        · exact absurd b1 hr0.1
        · obtain ⟨j0, rfl⟩ := z_nat hr0.2.2.1
          have hH2 : zRH (z_us sh k (z_u (sh k).1 j0 (zNar (sh k).2.1 u), (sh k).2)) (z_u ln k (ln k)) (z_u rz k (rz k)) (z_u it (24 * k + j0) (zNar l u)) := by
            refine zRH_upd hH hk4 ⟨a1.1, hb2, fun j => ?_⟩ a2.1 a2.2 (Or.inr ⟨b1, b2, b3, fun j hj => ?_⟩) (fun j hj => by unfold z_u; rw [if_neg (by omega)]) (fun j => ?_)
            · have q1 := a1.2.2 j
              have q2 := zNar_in (lane := (sh k).2.1) hu
              show -9223372036854775808 ≤ z_u (sh k).1 j0 (zNar (sh k).2.1 u) j ∧ z_u (sh k).1 j0 (zNar (sh k).2.1 u) j ≤ 9223372036854775807
              unfold z_u
              split
              · exact q2
              · exact q1
            · show z_u it (24 * k + j0) (zNar l u) (24 * (k : Int) + j) = z_u (sh k).1 j0 (zNar (sh k).2.1 u) j
              unfold z_u
              by_cases e : (j : Int) = (j0 : Int)
              · rw [if_pos (by omega), if_pos e, hr0.2.1]
              · rw [if_neg (by omega), if_neg e]; exact b4 j hj
            · have q1 := hH.2 j
              have q2 := zNar_in (lane := l) hu
              unfold z_u
              split
              · exact q2
              · exact q1
          rw [z_u_self, z_u_self] at hH2
          exact ⟨⟨1, by omega, rfl, rfl⟩, ⟨_, _, _, _, _, _, _, _, _, _, _, _, _, _, _, _, _, _, _, _, _, _, _, _, _, _, _, _, _, _, _, _, _, _, _, _, _, _, _, _, _, _, _, _, _, _, rfl, rfl, hT, hI, hB, hH2⟩⟩
      · exact absurd hd he
      · exact absurd hc he
    · obtain ⟨k, rfl⟩ := z_nat hc.1.1
      rw [Int.toNat_natCast] at hd ⊢
      have hk4 : k < 4 := by omega
      have hrl := zRef_Lk (y := y) (m := 1) hH hk4 hc.2
      have hin := zRef_in (sh k).2.1 (sh k).2.2 l y 1
      rcases hv2 with ⟨_, he, _, _⟩ | ⟨_, _, rfl, rfl⟩ | ⟨he, _, _⟩
      · exact absurd (hrl.trans he) hd
      · exact ⟨⟨zRef (sh k).2.1 (sh k).2.2 l y 1, by omega, rfl, by rw [hrl]⟩, ⟨_, _, _, _, _, _, _, _, _, _, _, _, _, _, _, _, _, _, _, _, _, _, _, _, _, _, _, _, _, _, _, _, _, _, _, _, _, _, _, _, _, _, _, _, _, _, rfl, rfl, hT, hI, hB, hH⟩⟩
      · exact absurd hc he
    · rcases hv2 with ⟨he, _, _, _⟩ | ⟨he, _, _, _⟩ | ⟨_, rfl, rfl⟩
      · exact absurd he hc
      · exact absurd he hc
      · exact ⟨⟨-1, by omega, rfl, rfl⟩, ⟨_, _, _, _, _, _, _, _, _, _, _, _, _, _, _, _, _, _, _, _, _, _, _, _, _, _, _, _, _, _, _, _, _, _, _, _, _, _, _, _, _, _, _, _, _, _, rfl, rfl, hT, hI, hB, hH⟩⟩
theorem d_film {wF wM : zW} {x l y : Int} (hx : -2147483648 ≤ x ∧ x ≤ 2147483647) (hl : -2147483648 ≤ l ∧ l ≤ 2147483647) (hy : -2147483648 ≤ y ∧ y ≤ 2147483647) (hI : zInv wF wM) : zDual m_Fp_film m_Mo_film [.inl x, .inl l, .inl y] wF wM := by
  obtain ⟨img, w, ks, ss, n, who, ties, su, cs, sz, w', ks', ss', n', who', ties', su', cs', sz', b, tn, tp, fl, rs, rc, sh, w2, ks2, ss2, la, su2, nm, np, ns, tp2, pl, rs2, rd2, lp, ik, kp, km, kn, ln, rz, it, rfl, rfl, hT, hI, hB, hH⟩ := hI
  obtain ⟨hL, ⟨hl0, hl1⟩, ⟨hW, hWa⟩, ⟨hK, hKa⟩, ⟨hS, hSa⟩, hz, hN⟩ := id hT
  have hn := hL.1
  have h1 : ∀ i : Nat, i < 4 → -1 ≤ ln i ∧ ln i ≤ 2 := fun i hi => (hH.1 i hi).2.1.1
  have h2 : ∀ i : Nat, i < 4 → 0 ≤ rz i ∧ rz i ≤ 24 := fun i hi => (hH.1 i hi).2.1.2
  have hOk : ∀ i : Nat, i < 4 → zOkH (sh i) := fun i hi => (hH.1 i hi).1
  have hS2 : zOkS ss2 n := fun j hj => by rw [← hSa j hj]; exact hS j hj
  refine ⟨_, _, c_Fp_film hx hl hy hn hS hOk, c_Mo_film hx hl hy hn hS2 h1 h2, fun v wa hv => ?_, fun v wa v2 wb hv hv2 => ?_⟩
  · rcases hv with ⟨_, _, rfl, _⟩ | ⟨_, _, rfl, _⟩ | ⟨_, rfl, _⟩ <;> exact ⟨_, rfl⟩
  · rcases hv with ⟨hc, hd, rfl, rfl⟩ | ⟨hc, hd, rfl, rfl⟩ | ⟨hc, rfl, rfl⟩
    · obtain ⟨k, rfl⟩ := z_nat hc.1.1
      rw [Int.toNat_natCast] at hd ⊢
      have hk4 : k < 4 := by omega
      have hrl := zRef_Lk (y := y) (m := n) hH hk4 hc.2
      have hr0 := zRef_0 hd
      rw [hrl] at hd
      rcases hv2 with ⟨_, _, rfl, rfl⟩ | ⟨_, he, _, _⟩ | ⟨he, _, _⟩
      · obtain ⟨a1, a2, a3⟩ := hH.1 k hk4
        have hb2 := a1.2.1
        rcases a3 with ⟨b1, _⟩ | ⟨b1, b2, b3, b4⟩
        · exact absurd b1 hr0.1
        · obtain ⟨j0, rfl⟩ := z_nat hr0.2.2.1
          have hsm : ∀ j : Int, (j0 : Int) ≤ j ∧ j < (j0 : Int) + n → zNar (sh k).2.1 (ss (j - j0)) = ss2 (j - j0) := fun j hj => by
            obtain ⟨q, hq⟩ := z_nat (show 0 ≤ j - (j0 : Int) by omega)
            rw [hq, zNar_s (hS q (by omega)), hSa q (by omega)]
          have hsr : ∀ j : Int, 0 ≤ j ∧ j < (n : Int) → 0 ≤ ss2 j ∧ ss2 j ≤ 20 := fun j hj => by
            obtain ⟨q, hq⟩ := z_nat hj.1
            rw [hq]; exact hS2 q (by omega)
          have hH2 : zRH (z_us sh k (zFilm (sh k).1 j0 ss (sh k).2.1 n, (sh k).2)) (z_u ln k (ln k)) (z_u rz k (rz k)) (zFlm it (24 * k + j0) ss2 n) := by
            refine zRH_upd hH hk4 ⟨a1.1, hb2, fun j => ?_⟩ a2.1 a2.2 (Or.inr ⟨b1, b2, b3, fun j hj => ?_⟩) (fun j hj => by rw [zFlm_at, if_neg (by omega)]) (fun j => ?_)
            · have q1 := a1.2.2 j
              show -9223372036854775808 ≤ zFilm (sh k).1 j0 ss (sh k).2.1 n j ∧ zFilm (sh k).1 j0 ss (sh k).2.1 n j ≤ 9223372036854775807
              rw [zFilm_at]
              by_cases e : (j0 : Int) ≤ j ∧ j < (j0 : Int) + n
              · rw [if_pos e, hsm j e]
                have := hsr (j - j0) (by omega)
                omega
              · rw [if_neg e]; exact q1
            · show zFlm it (24 * k + j0) ss2 n (24 * (k : Int) + j) = zFilm (sh k).1 j0 ss (sh k).2.1 n j
              rw [zFlm_at, zFilm_at]
              by_cases e : (j0 : Int) ≤ (j : Int) ∧ (j : Int) < (j0 : Int) + n
              · rw [if_pos (by omega), if_pos e, hsm j e, show 24 * (k : Int) + j - (24 * (k : Int) + j0) = (j : Int) - j0 by omega]
              · rw [if_neg (by omega), if_neg e]; exact b4 j hj
            · have q1 := hH.2 j
              rw [zFlm_at]
              by_cases e : 24 * (k : Int) + j0 ≤ j ∧ j < 24 * (k : Int) + j0 + n
              · rw [if_pos e]
                have := hsr (j - (24 * (k : Int) + j0)) (by omega)
                omega
              · rw [if_neg e]; exact q1
          rw [z_u_self, z_u_self] at hH2
          exact ⟨⟨n, by omega, rfl, rfl⟩, ⟨_, _, _, _, _, _, _, _, _, _, _, _, _, _, _, _, _, _, _, _, _, _, _, _, _, _, _, _, _, _, _, _, _, _, _, _, _, _, _, _, _, _, _, _, _, _, rfl, rfl, hT, hI, hB, hH2⟩⟩
      · exact absurd hd he
      · exact absurd hc he
    · obtain ⟨k, rfl⟩ := z_nat hc.1.1
      rw [Int.toNat_natCast] at hd ⊢
      have hk4 : k < 4 := by omega
      have hrl := zRef_Lk (y := y) (m := n) hH hk4 hc.2
      have hin := zRef_in (sh k).2.1 (sh k).2.2 l y n
      rcases hv2 with ⟨_, he, _, _⟩ | ⟨_, _, rfl, rfl⟩ | ⟨he, _, _⟩
      · exact absurd (hrl.trans he) hd
      · exact ⟨⟨zRef (sh k).2.1 (sh k).2.2 l y n, by omega, rfl, by rw [hrl]⟩, ⟨_, _, _, _, _, _, _, _, _, _, _, _, _, _, _, _, _, _, _, _, _, _, _, _, _, _, _, _, _, _, _, _, _, _, _, _, _, _, _, _, _, _, _, _, _, _, rfl, rfl, hT, hI, hB, hH⟩⟩
      · exact absurd hc he
    · rcases hv2 with ⟨he, _, _, _⟩ | ⟨he, _, _, _⟩ | ⟨_, rfl, rfl⟩
      · exact absurd he hc
      · exact absurd he hc
      · exact ⟨⟨-1, by omega, rfl, rfl⟩, ⟨_, _, _, _, _, _, _, _, _, _, _, _, _, _, _, _, _, _, _, _, _, _, _, _, _, _, _, _, _, _, _, _, _, _, _, _, _, _, _, _, _, _, _, _, _, _, rfl, rfl, hT, hI, hB, hH⟩⟩
theorem d_mixed {wF wM : zW} {g x l y m part : Int} (hg : -2147483648 ≤ g ∧ g ≤ 2147483647) (hx : -2147483648 ≤ x ∧ x ≤ 2147483647) (hl : -2147483648 ≤ l ∧ l ≤ 2147483647) (hy : -2147483648 ≤ y ∧ y ≤ 2147483647) (hm : -2147483648 ≤ m ∧ m ≤ 2147483647) (hp : -2147483648 ≤ part ∧ part ≤ 2147483647) (hI : zInv wF wM) : zDuaL m_Fp_mixed m_Mo_mixed [.inl g, .inl x, .inl l, .inl y, .inl m, .inl part] wF wM := by
  obtain ⟨img, w, ks, ss, n, who, ties, su, cs, sz, w', ks', ss', n', who', ties', su', cs', sz', b, tn, tp, fl, rs, rc, sh, w2, ks2, ss2, la, su2, nm, np, ns, tp2, pl, rs2, rd2, lp, ik, kp, km, kn, ln, rz, it, rfl, rfl, hT, hI, hB, hH⟩ := hI
  obtain ⟨hL, ⟨hl0, hl1⟩, ⟨hW, hWa⟩, ⟨hK, hKa⟩, ⟨hS, hSa⟩, hz, hN⟩ := id hT
  have hn := hL.1
  have hL2 : zOkL n (la 0) (la 1) := by rw [hl0, hl1]; exact hL
  have hS2 : zOkS ss2 n := fun j hj => by rw [← hSa j hj]; exact hS j hj
  have hW2 : zOkW w2 := fun j hj => by rw [← hWa j hj]; exact hW j hj
  have hK2 : zOkK ks2 n := fun j hj => by rw [← hKa j hj]; exact hK j hj
  have e1 := zSumN_c hWa 21 (Nat.le_refl 21)
  have hsum := zSumN_in hW
  have hwei := zWei21 hW
  have h1 : ∀ i : Nat, i < 4 → -1 ≤ ln i ∧ ln i ≤ 2 := fun i hi => (hH.1 i hi).2.1.1
  have h2 : ∀ i : Nat, i < 4 → 0 ≤ rz i ∧ rz i ≤ 24 := fun i hi => (hH.1 i hi).2.1.2
  have hOk : ∀ i : Nat, i < 4 → zOkH (sh i) := fun i hi => (hH.1 i hi).1
  refine ⟨_, _, c_Fp_mixed hg hx hl hy hm hp hL hS hW hOk, c_Mo_mixed hg hx hl hy hm hp hL2 hS2 hW2 h1 h2 hH.2, fun v wa hv => ?_, fun v wa v2 wb hv hv2 => ?_⟩
  · rcases hv.1 with ⟨_, ⟨_, rfl⟩ | ⟨_, _, rfl⟩ | ⟨_, _, rfl⟩⟩ | ⟨_, rfl⟩ <;> exact ⟨_, rfl⟩
  · obtain ⟨hv, rfl⟩ := hv
    obtain ⟨hv2, rfl⟩ := hv2
    refine ⟨?_, ⟨_, _, _, _, _, _, _, _, _, _, _, _, _, _, _, _, _, _, _, _, _, _, _, _, _, _, _, _, _, _, _, _, _, _, _, _, _, _, _, _, _, _, _, _, _, _, rfl, rfl, hT, hI, hB, hH⟩⟩
    rcases hv with ⟨hc, hv⟩ | ⟨hc, rfl⟩
    · rcases hv2 with ⟨_, hv2⟩ | ⟨he, _⟩
      · obtain ⟨k, rfl⟩ := z_nat hc.2.1.1
        obtain ⟨q, rfl⟩ := z_nat (show 0 ≤ m by omega)
        rw [Int.toNat_natCast, Int.toNat_natCast] at hv
        rw [Int.toNat_natCast] at hv2
        have hk4 : k < 4 := by omega
        have hrl := zRef_Lk (y := y) (m := (q : Int)) hH hk4 hc.2.2.1
        have hin := zRef_in (sh k).2.1 (sh k).2.2 l y q
        rw [hl0, hl1, ← zFs_c hSa hWa, ← e1, ← hrl] at hv2
        by_cases hd : zRef (sh k).2.1 (sh k).2.2 l y q = 0
        · have hr0 := zRef_0 hd
          obtain ⟨a1, a2, a3⟩ := hH.1 k hk4
          rcases a3 with ⟨b1, _⟩ | ⟨b1, b2, b3, b4⟩
          · exact absurd b1 hr0.1
          · have hag : ∀ j : Nat, j < q → it (24 * (k : Int) + y + j) = (sh k).1 (y + j) := fun j hj => by
              obtain ⟨j0, hj0⟩ := z_nat hr0.2.2.1
              have h9 := b4 (j0 + j) (by omega)
              rw [hj0, show (j0 : Int) + (j : Int) = ((j0 + j : Nat) : Int) by omega, ← h9]
              congr 1
              omega
            rw [zAllW_c hag, zWtS_c hag, zMxN_c hag] at hv2
            rcases hv with ⟨he, _⟩ | ⟨_, h3, rfl⟩ | ⟨_, h3, rfl⟩
            · exact absurd hd he
            · rcases hv2 with ⟨he, _⟩ | ⟨_, _, rfl⟩ | ⟨_, h4, _⟩
              · exact absurd hd he
              · exact ⟨-2, by omega, rfl, rfl⟩
              · exfalso
                rcases h3 with h | h | h
                · exact h h4.1
                · exact h4.2.1 h
                · exact h4.2.2 h
            · rcases hv2 with ⟨he, _⟩ | ⟨_, h4, _⟩ | ⟨_, _, rfl⟩
              · exact absurd hd he
              · exfalso
                rcases h4 with h | h | h
                · exact h h3.1
                · exact h3.2.1 h
                · exact h3.2.2 h
              · have hfs : ∀ j, 0 ≤ zFs w ss n who ties g.toNat j ∧ zFs w ss n who ties g.toNat j ≤ 200000000 := fun j => by
                  have := zBu_in (w := w) (ss := z_u ss g.toNat j) (n := n) (who := who) (ties := ties) (g := g.toNat) hW
                  unfold zFs; omega
                have hmx := zMxN_in hfs h3.1
                have hwt := zWtS_in h3.1
                have hab : (zWtS (sh k).1 y q).toNat * (zSumN w 21).toNat ≤ 2079 * 2079 := Nat.mul_le_mul (by omega) (by omega)
                have hap : 0 < (zWtS (sh k).1 y q).toNat * (zSumN w 21).toNat := Nat.mul_pos (by omega) (by omega)
                have hlo := zLow_in (t := (zMxN (sh k).1 y (zFs w ss n who ties g.toNat) q).toNat) (b := (zWtS (sh k).1 y q).toNat * (zSumN w 21).toNat * 2520) (part := part) (by omega)
                exact ⟨_, by omega, rfl, rfl⟩
        · rcases hv with ⟨_, rfl⟩ | ⟨he, _, _⟩ | ⟨he, _, _⟩
          · rcases hv2 with ⟨_, rfl⟩ | ⟨he, _, _⟩ | ⟨he, _, _⟩
            · exact ⟨_, by omega, rfl, rfl⟩
            · exact absurd he hd
            · exact absurd he hd
          · exact absurd he hd
          · exact absurd he hd
      · exact absurd hc he
    · rcases hv2 with ⟨he, _⟩ | ⟨_, rfl⟩
      · exact absurd he hc
      · exact ⟨-1, by omega, rfl, rfl⟩
