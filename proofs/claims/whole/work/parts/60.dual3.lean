/-! THE TWO SIDE BY SIDE: nights -/
theorem zCp_at (ns ss : Int → Int) (b : Int) : ∀ (k : Nat) (j : Int), zCp ns ss b k j = if b ≤ j ∧ j < b + k then ss (j - b) else ns j
  | 0, j => by
    show ns j = _
    rw [if_neg (by omega)]
  | k + 1, j => by
    have h := zCp_at ns ss b k j
    show z_u (zCp ns ss b k) (b + k) (ss k) j = _
    unfold z_u
    by_cases e : j = b + k
    · rw [if_pos e, if_pos (by omega), show j - b = (k : Int) by omega]
    · rw [if_neg e, h]
      by_cases c : b ≤ j ∧ j < b + k
      · rw [if_pos c, if_pos (by omega)]
      · rw [if_neg c, if_neg (by omega)]
theorem zMask_cut {p : Nat → Bool} {n : Nat} (hn : n ≤ 9) (h : ∀ k, p k = true → k < n) : zMaskN p 9 = zMaskN p n := by
  refine Nat.eq_of_testBit_eq (fun k => ?_)
  rw [zMask_tb, zMask_tb]
  cases hp : p k with
  | false => rw [Bool.and_false, Bool.and_false]
  | true =>
    have := h k hp
    rw [decide_eq_true (show k < 9 by omega), decide_eq_true this]
theorem zRN_night {n : Nat} {su : Int → Int} {cs : Nat → zCD} {sz : Nat} {su2 nm np ns ks ss ss2 : Int → Int} {who ties x : Int} (hN : zRN n su cs sz su2 nm np ns) (hL : zOkL n who ties) (hn1 : 1 ≤ n) (hS : zOkS ss n) (hSa : zAgS n ss ss2) (hx : 0 ≤ x ∧ x ≤ 20) :
    zRN n (z_u su sz x) (z_un cs sz (zCpC (cs sz) (ks, (ss, (n, (who, ties)))))) (sz + 1) (z_u su2 sz x) (z_u nm sz n) (z_u np sz (zPyM ss2 n who ties x)) (zCp ns ss2 (9 * sz) n) := by
  have hn := hL.1
  have hcp : ∀ j : Nat, j < n → z_cpy ss (cs sz).2.1 9 j = ss j := fun j hj => by unfold z_cpy; rw [if_pos (by omega)]
  have hS2 : zOkS ss2 n := fun j hj => by rw [← hSa j hj]; exact hS j hj
  intro i hi
  by_cases e : i = sz
  · subst e
    have e1 : z_un cs i (zCpC (cs i) (ks, (ss, (n, (who, ties))))) i = (z_cpy ks (cs i).1 9, (z_cpy ss (cs i).2.1 9, (n, (who, ties)))) := by unfold z_un; rw [if_pos rfl]; rfl
    have e2 : ∀ (f : Int → Int) (y : Int), z_u f i y i = y := fun f y => by unfold z_u; rw [if_pos rfl]
    unfold zRN1
    rw [e1]
    simp only [e2]
    refine ⟨⟨hn, fun j hj => ?_, hL.2.1, hL.2.2⟩, ⟨hn1, Nat.le_refl n⟩, hx, trivial, trivial, ?_, fun g hg => ?_⟩
    · have hj : j < n := hj
      show 0 ≤ z_cpy ss (cs i).2.1 9 j ∧ z_cpy ss (cs i).2.1 9 j ≤ 20
      rw [hcp j hj]; exact hS j hj
    · show zPyM ss2 n who ties x = ((zMaskN (zPay (z_cpy ss (cs i).2.1 9) n who ties x) n : Nat) : Int)
      rw [(zPyM_eq hn1 hn hS2 hx hL.2.1 hL.2.2).1, zPay_c (ss := z_cpy ss (cs i).2.1 9) (ss2 := ss2) (n := n) (fun j hj => by rw [hcp j hj]; exact hSa j hj)]
    · have hg : g < n := hg
      show zCp ns ss2 (9 * (i : Int)) n (9 * (i : Int) + g) = z_cpy ss (cs i).2.1 9 g
      rw [zCp_at, if_pos (by omega), hcp g hg, hSa g hg, show 9 * (i : Int) + (g : Int) - 9 * (i : Int) = (g : Int) by omega]
  · have hi2 : i < sz := by omega
    have e1 : z_un cs sz (zCpC (cs sz) (ks, (ss, (n, (who, ties))))) i = cs i := by unfold z_un; rw [if_neg e]
    have e2 : ∀ (f : Int → Int) (y : Int), z_u f sz y i = f i := fun f y => by unfold z_u; rw [if_neg (by omega)]
    obtain ⟨a1, a2, a3, a4, a5, a6, a7⟩ := hN i hi2
    unfold zRN1
    rw [e1]
    simp only [e2]
    refine ⟨a1, a2, a3, a4, a5, a6, fun g hg => ?_⟩
    have h9 := a1.1
    rw [zCp_at, if_neg (by omega)]
    exact a7 g hg
theorem zKn_iff {n : Nat} {su : Int → Int} {cs : Nat → zCD} {sz : Nat} {su2 nm np ns : Int → Int} (hN : zRN n su cs sz su2 nm np ns) (g : Nat) : zKnew su cs sz g ↔ zKnM su2 nm ns sz g := by
  constructor
  · rintro ⟨h1, h2⟩
    refine ⟨⟨h1, zWas_iff.mpr (fun i hi => ?_)⟩, fun i hi => ?_⟩
    · have := (hN i hi).2.2.2.2.1
      have := (h2 i hi).1
      omega
    · obtain ⟨_, _, _, a4, _, _, a7⟩ := hN i hi
      rw [a7 g (h2 i hi).1, a4]; exact (h2 i hi).2
  · rintro ⟨⟨h1, h2⟩, h3⟩
    have hw := zWas_iff.mp h2
    refine ⟨h1, fun i hi => ?_⟩
    obtain ⟨_, _, _, a4, a5, _, a7⟩ := hN i hi
    have h4 : g < (cs i).2.2.1 := by have := hw i hi; omega
    exact ⟨h4, by rw [← a7 g h4, h3 i hi, a4]⟩
theorem zBR_iff {n : Nat} {su : Int → Int} {cs : Nat → zCD} {sz : Nat} {su2 nm np ns : Int → Int} (hN : zRN n su cs sz su2 nm np ns) {g : Nat} (hg : g < 9) (a b : Nat) : zBR nm np ns sz g a b ↔ (zPaid su cs sz g ∧ zBtw cs sz g a b) := by
  have hbit : ∀ i, i < sz → (zBit (np i) g ↔ zShD (cs i) (su i) g ≠ 0) := fun i hi => by
    obtain ⟨a1, _, _, _, _, a6, _⟩ := hN i hi
    rw [a6, zBit_mask a1.1 hg]
    have hin := zSh_in (cs i).2.1 (cs i).2.2.1 (cs i).2.2.2.1 (cs i).2.2.2.2 (su i) g (zFree (cs i).2.1 (cs i).2.2.1 (cs i).2.2.2.1)
    unfold zPay
    rw [decide_eq_true_iff]
    constructor
    · rintro ⟨_, h⟩ q
      have q : zSh (cs i).2.1 (cs i).2.2.1 (cs i).2.2.2.1 (cs i).2.2.2.2 (su i) g (zFree (cs i).2.1 (cs i).2.2.1 (cs i).2.2.2.1) = 0 := q
      omega
    · intro h
      refine ⟨zSh_has h, ?_⟩
      have h : zSh (cs i).2.1 (cs i).2.2.1 (cs i).2.2.2.1 (cs i).2.2.2.2 (su i) g (zFree (cs i).2.1 (cs i).2.2.1 (cs i).2.2.2.1) ≠ 0 := h
      omega
  constructor
  · rintro ⟨h1, h2, ⟨h3, h4, h5, h6⟩, h7⟩
    have wa := zWas_iff.mp h4
    have wb := zWas_iff.mp h5
    have wg := zWas_iff.mp h6
    refine ⟨⟨h3, fun i hi => (hbit i hi).mp (h7 i hi).1⟩, fun i hi => ?_⟩
    obtain ⟨_, _, _, _, a5, _, a7⟩ := hN i hi
    have ha : a < (cs i).2.2.1 := by have := wa i hi; omega
    have hb : b < (cs i).2.2.1 := by have := wb i hi; omega
    have hgg : g < (cs i).2.2.1 := by have := wg i hi; omega
    have h8 := (h7 i hi).2
    rw [a7 a ha, a7 b hb, a7 g hgg] at h8
    exact ⟨ha, hb, h8⟩
  · rintro ⟨⟨h1, h2⟩, h3⟩
    have h0 := h3 0 h1
    have hgi : ∀ i, i < sz → g < (cs i).2.2.1 := fun i hi => zSh_has (h2 i hi)
    refine ⟨fun z => by rw [z] at h0; omega, fun z => by rw [z] at h0; omega, ⟨h1, zWas_iff.mpr (fun i hi => ?_), zWas_iff.mpr (fun i hi => ?_), zWas_iff.mpr (fun i hi => ?_)⟩, fun i hi => ⟨(hbit i hi).mpr (h2 i hi), ?_⟩⟩
    · have := (hN i hi).2.2.2.2.1
      have := (h3 i hi).1
      omega
    · have := (hN i hi).2.2.2.2.1
      have := (h3 i hi).2.1
      omega
    · have := (hN i hi).2.2.2.2.1
      have := hgi i hi
      omega
    · obtain ⟨_, _, _, _, _, _, a7⟩ := hN i hi
      obtain ⟨b1, b2, b3⟩ := h3 i hi
      rw [a7 a b1, a7 b b2, a7 g (hgi i hi)]
      exact b3
theorem zPrB_c {B B2 : Nat → Nat → Prop} {a : Nat} (h : ∀ b, B a b ↔ B2 a b) : ∀ m, zPrB B a m = zPrB B2 a m
  | 0 => rfl
  | m + 1 => by
    have h1 := zPrB_c h m
    unfold zPrB
    rw [h1]
    by_cases q : a < m ∧ B a m
    · rw [if_pos q, if_pos ⟨q.1, (h m).mp q.2⟩]
    · rw [if_neg q, if_neg (fun z => q ⟨z.1, (h m).mpr z.2⟩)]
theorem zPrB_cut {B : Nat → Nat → Prop} {a n : Nat} (h : ∀ b, B a b → b < n) : ∀ d, zPrB B a (n + d) = zPrB B a n
  | 0 => rfl
  | d + 1 => by
    have h1 := zPrB_cut h d
    show zPrB B a (n + d) + @ite _ (a < n + d ∧ B a (n + d)) (Classical.propDecidable _) 1 0 = _
    rw [if_neg (fun z => by have := h _ z.2; omega), h1, Nat.add_zero]
theorem zPrB_no {B : Nat → Nat → Prop} {a : Nat} (h : ∀ b, ¬ B a b) : ∀ m, zPrB B a m = 0
  | 0 => rfl
  | m + 1 => by
    have h1 := zPrB_no h m
    unfold zPrB
    rw [h1, if_neg (fun z => h m z.2)]
theorem zPrX_eq {B B2 : Nat → Nat → Prop} {n : Nat} (hn : n ≤ 9) (h : ∀ a b, B a b ↔ B2 a b) (hb : ∀ a b, B a b → a < n ∧ b < n) : zPrA B 9 = zPrX B2 n n := by
  have h1 : ∀ a, zPrA B a = zPrX B2 n a := by
    intro a
    induction a with
    | zero => rfl
    | succ a ih =>
      show zPrA B a + zPrB B a 9 = zPrX B2 n a + zPrB B2 a n
      obtain ⟨d, hd⟩ := Nat.exists_eq_add_of_le hn
      rw [ih, hd, zPrB_cut (fun b q => (hb a b q).2), zPrB_c (h a)]
  have h2 : ∀ d, zPrX B2 n (n + d) = zPrX B2 n n := by
    intro d
    induction d with
    | zero => rfl
    | succ d ih =>
      show zPrX B2 n (n + d) + zPrB B2 (n + d) n = _
      rw [zPrB_no (fun b q => by have := (hb _ _ ((h _ _).mpr q)).1; omega), ih, Nat.add_zero]
  obtain ⟨d, hd⟩ := Nat.exists_eq_add_of_le hn
  rw [h1 9]
  rw [hd]
  exact h2 d
theorem zFirst_eq {B B2 : Nat → Nat → Prop} {n : Nat} {r r2 : Int} (hn : n ≤ 9) (h : ∀ a b, B a b ↔ B2 a b) (hb : ∀ a b, B a b → a < n ∧ b < n) (h1 : zFirst B 9 r) (h2 : zFirstR B2 n r2) : (if r < 0 then -4 else r) = r2 := by
  rcases h1 with ⟨rfl, q1⟩ | ⟨a, b, a1, a2, a3, rfl, a5⟩
  · rw [if_pos (by omega)]
    rcases h2 with ⟨rfl, _⟩ | ⟨a, b, b1, b2, b3, _⟩
    · rfl
    · exact absurd ((h a b).mpr b3) (q1 a b b1 (by omega))
  · rw [if_neg (by omega)]
    rcases h2 with ⟨_, q2⟩ | ⟨a', b', b1, b2, b3, rfl, b5⟩
    · exact absurd ((h a b).mp a3) (q2 a b a1 (hb a b a3).2)
    · have c1 : ¬ (a' < a ∨ (a' = a ∧ b' < b)) := fun z => a5 a' b' b1 (by omega) z ((h a' b').mpr b3)
      have c2 : ¬ (a < a' ∨ (a = a' ∧ b < b')) := fun z => b5 a b a1 (hb a b a3).2 z ((h a b).mp a3)
      omega
theorem d_night {wF wM : zW} {x : Int} (hx : -2147483648 ≤ x ∧ x ≤ 2147483647) (hI : zInv wF wM) : zDual m_Fp_night m_Mo_night [.inl x] wF wM := by
  obtain ⟨img, w, ks, ss, n, who, ties, su, cs, sz, w', ks', ss', n', who', ties', su', cs', sz', b, tn, tp, fl, rs, rc, sh, w2, ks2, ss2, la, su2, nm, np, ns, tp2, pl, rs2, rd2, lp, ik, kp, km, kn, ln, rz, it, rfl, rfl, hT, hI, hB, hH⟩ := hI
  obtain ⟨hL, ⟨hl0, hl1⟩, ⟨hW, hWa⟩, ⟨hK, hKa⟩, ⟨hS, hSa⟩, hz, hN⟩ := id hT
  have hn := hL.1
  have hL2 : zOkL n (la 0) (la 1) := by rw [hl0, hl1]; exact hL
  have hS2 : zOkS ss2 n := fun j hj => by rw [← hSa j hj]; exact hS j hj
  have hW2 : zOkW w2 := fun j hj => by rw [← hWa j hj]; exact hW j hj
  have hK2 : zOkK ks2 n := fun j hj => by rw [← hKa j hj]; exact hK j hj
  have e1 := zSumN_c hWa 21 (Nat.le_refl 21)
  have hsum := zSumN_in hW
  have hwei := zWei21 hW
  refine ⟨_, _, c_Fp_night hx hn hz, c_Mo_night hx hn hS2 (by rw [hl0]; exact hL.2.1) (by rw [hl1]; exact hL.2.2) hz, fun v wa hv => ?_, fun v wa v2 wb hv hv2 => ?_⟩
  · rcases hv with ⟨_, rfl, _⟩ | ⟨_, rfl, _⟩ <;> exact ⟨_, rfl⟩
  · rcases hv with ⟨hc, rfl, rfl⟩ | ⟨hc, rfl, rfl⟩
    · rcases hv2 with ⟨_, _, _, rfl, rfl⟩ | ⟨_, he, _, _⟩ | ⟨_, _, he, _, _⟩ | ⟨he, _, _⟩
      · rw [hl0, hl1]
        exact ⟨⟨sz, by omega, rfl, rfl⟩, ⟨_, _, _, _, _, _, _, _, _, _, _, _, _, _, _, _, _, _, _, _, _, _, _, _, _, _, _, _, _, _, _, _, _, _, _, _, _, _, _, _, _, _, _, _, _, _, rfl, rfl, ⟨hL, ⟨hl0, hl1⟩, ⟨hW, hWa⟩, ⟨hK, hKa⟩, ⟨hS, hSa⟩, by omega, zRN_night hN hL (by omega) hS hSa (by omega)⟩, hI, hB, hH⟩⟩
      · exact absurd he (by omega)
      · exact absurd he hc.2.2
      · exact absurd hc.1 he
    · rcases hv2 with ⟨h1, h2, h3, rfl, rfl⟩ | ⟨h1, h2, rfl, rfl⟩ | ⟨h1, h2, h3, rfl, rfl⟩ | ⟨h1, rfl, rfl⟩
      · exact absurd ⟨h1, by omega, h3⟩ hc
      · rw [if_neg (fun z => z h1), if_pos (by omega)]
        exact ⟨⟨-3, by omega, rfl, rfl⟩, ⟨_, _, _, _, _, _, _, _, _, _, _, _, _, _, _, _, _, _, _, _, _, _, _, _, _, _, _, _, _, _, _, _, _, _, _, _, _, _, _, _, _, _, _, _, _, _, rfl, rfl, hT, hI, hB, hH⟩⟩
      · rw [if_neg (fun z => z h1), if_neg (by omega)]
        exact ⟨⟨-2, by omega, rfl, rfl⟩, ⟨_, _, _, _, _, _, _, _, _, _, _, _, _, _, _, _, _, _, _, _, _, _, _, _, _, _, _, _, _, _, _, _, _, _, _, _, _, _, _, _, _, _, _, _, _, _, rfl, rfl, hT, hI, hB, hH⟩⟩
      · rw [if_pos h1]
        exact ⟨⟨-1, by omega, rfl, rfl⟩, ⟨_, _, _, _, _, _, _, _, _, _, _, _, _, _, _, _, _, _, _, _, _, _, _, _, _, _, _, _, _, _, _, _, _, _, _, _, _, _, _, _, _, _, _, _, _, _, rfl, rfl, hT, hI, hB, hH⟩⟩
theorem d_knew {wF wM : zW}  (hI : zInv wF wM) : zDual m_Fp_knew m_Mo_knew [] wF wM := by
  obtain ⟨img, w, ks, ss, n, who, ties, su, cs, sz, w', ks', ss', n', who', ties', su', cs', sz', b, tn, tp, fl, rs, rc, sh, w2, ks2, ss2, la, su2, nm, np, ns, tp2, pl, rs2, rd2, lp, ik, kp, km, kn, ln, rz, it, rfl, rfl, hT, hI, hB, hH⟩ := hI
  obtain ⟨hL, ⟨hl0, hl1⟩, ⟨hW, hWa⟩, ⟨hK, hKa⟩, ⟨hS, hSa⟩, hz, hN⟩ := id hT
  have hn := hL.1
  have hc : ∀ i, i < sz → zOkC (cs i) := fun i hi => (hN i hi).1
  have hs : ∀ i : Nat, i < sz → 0 ≤ su i ∧ su i ≤ 20 := fun i hi => (hN i hi).2.2.1
  have hU : ∀ i : Nat, i < sz → 0 ≤ su2 i ∧ su2 i ≤ 20 := fun i hi => by rw [(hN i hi).2.2.2.1]; exact hs i hi
  have hM : ∀ i : Nat, i < sz → 0 ≤ nm i ∧ nm i ≤ 9 := fun i hi => by
    have h1 := (hN i hi).2.2.2.2.1
    have h2 := (hN i hi).1.1
    omega
  have hX : ∀ i g : Nat, i < sz → (g : Int) < nm i → 0 ≤ ns (9 * (i : Int) + g) ∧ ns (9 * (i : Int) + g) ≤ 20 := fun i g hi hg => by
    obtain ⟨h1, _, _, _, h5, _, h7⟩ := hN i hi
    rw [h5] at hg
    rw [h7 g (by omega)]
    exact h1.2.1 g (by omega)
  have hQ : ∀ i : Nat, i < sz → 0 ≤ np i ∧ np i < 512 := fun i hi => by
    obtain ⟨h1, _, _, _, _, h6, _⟩ := hN i hi
    have h8 := zMask9 (p := zPay (cs i).2.1 (cs i).2.2.1 (cs i).2.2.2.1 (cs i).2.2.2.2 (su i)) h1.1
    rw [h6]; omega
  refine ⟨_, _, c_Fp_knew hz hc hs, c_Mo_knew hn hz hU hM hX, fun v wa hv => ?_, fun v wa v2 wb hv hv2 => ?_⟩
  · obtain ⟨rfl, _⟩ := hv; exact ⟨_, rfl⟩
  · obtain ⟨rfl, rfl⟩ := hv
    obtain ⟨rfl, rfl⟩ := hv2
    have hp : zKnewB su cs sz = zKnB su2 nm ns sz := by
      funext g
      unfold zKnewB zKnB
      exact decide_eq_decide.mpr (zKn_iff hN g)
    have hcut : zMaskN (zKnB su2 nm ns sz) 9 = zMaskN (zKnB su2 nm ns sz) n := zMask_cut hn (fun k hk => by
      obtain ⟨h1, h2⟩ := (zKn_iff hN k).mpr (zKnB_iff.mp hk)
      have h3 := (hN 0 h1).2.1.2
      have h4 := (h2 0 h1).1
      omega)
    have hm := zMask9 (p := zKnB su2 nm ns sz) hn
    rw [hp, hcut]
    exact ⟨⟨_, by omega, rfl, rfl⟩, ⟨_, _, _, _, _, _, _, _, _, _, _, _, _, _, _, _, _, _, _, _, _, _, _, _, _, _, _, _, _, _, _, _, _, _, _, _, _, _, _, _, _, _, _, _, _, _, rfl, rfl, hT, hI, hB, hH⟩⟩
theorem d_leagues {wF wM : zW} {g x : Int} (hg : -2147483648 ≤ g ∧ g ≤ 2147483647) (hx : -2147483648 ≤ x ∧ x ≤ 2147483647) (hI : zInv wF wM) : zDual m_Fp_leagues m_Mo_leagues [.inl g, .inl x] wF wM := by
  obtain ⟨img, w, ks, ss, n, who, ties, su, cs, sz, w', ks', ss', n', who', ties', su', cs', sz', b, tn, tp, fl, rs, rc, sh, w2, ks2, ss2, la, su2, nm, np, ns, tp2, pl, rs2, rd2, lp, ik, kp, km, kn, ln, rz, it, rfl, rfl, hT, hI, hB, hH⟩ := hI
  obtain ⟨hL, ⟨hl0, hl1⟩, ⟨hW, hWa⟩, ⟨hK, hKa⟩, ⟨hS, hSa⟩, hz, hN⟩ := id hT
  have hn := hL.1
  have hc : ∀ i, i < sz → zOkC (cs i) := fun i hi => (hN i hi).1
  have hs : ∀ i : Nat, i < sz → 0 ≤ su i ∧ su i ≤ 20 := fun i hi => (hN i hi).2.2.1
  have hU : ∀ i : Nat, i < sz → 0 ≤ su2 i ∧ su2 i ≤ 20 := fun i hi => by rw [(hN i hi).2.2.2.1]; exact hs i hi
  have hM : ∀ i : Nat, i < sz → 0 ≤ nm i ∧ nm i ≤ 9 := fun i hi => by
    have h1 := (hN i hi).2.2.2.2.1
    have h2 := (hN i hi).1.1
    omega
  have hX : ∀ i g : Nat, i < sz → (g : Int) < nm i → 0 ≤ ns (9 * (i : Int) + g) ∧ ns (9 * (i : Int) + g) ≤ 20 := fun i g hi hg => by
    obtain ⟨h1, _, _, _, h5, _, h7⟩ := hN i hi
    rw [h5] at hg
    rw [h7 g (by omega)]
    exact h1.2.1 g (by omega)
  have hQ : ∀ i : Nat, i < sz → 0 ≤ np i ∧ np i < 512 := fun i hi => by
    obtain ⟨h1, _, _, _, _, h6, _⟩ := hN i hi
    have h8 := zMask9 (p := zPay (cs i).2.1 (cs i).2.2.1 (cs i).2.2.2.1 (cs i).2.2.2.2 (su i)) h1.1
    rw [h6]; omega
  refine ⟨_, _, c_Fp_leagues hg hx hn hz hc hs, c_Mo_leagues hg hx hn hz hM hQ hX, fun v wa hv => ?_, fun v wa v2 wb hv hv2 => ?_⟩
  · rcases hv.1 with ⟨_, ⟨_, rfl⟩ | ⟨_, rfl⟩⟩ | ⟨_, ⟨_, _, rfl, _⟩ | ⟨_, rfl⟩⟩ | ⟨_, rfl⟩ <;> exact ⟨_, rfl⟩
  · obtain ⟨hv, rfl⟩ := hv
    obtain ⟨hv2, rfl⟩ := hv2
    refine ⟨?_, ⟨_, _, _, _, _, _, _, _, _, _, _, _, _, _, _, _, _, _, _, _, _, _, _, _, _, _, _, _, _, _, _, _, _, _, _, _, _, _, _, _, _, _, _, _, _, _, rfl, rfl, hT, hI, hB, hH⟩⟩
    by_cases c1 : 0 ≤ g ∧ g < n
    · obtain ⟨k, rfl⟩ := z_nat c1.1
      rw [Int.toNat_natCast] at hv hv2
      have hB := zBR_iff hN (show k < 9 by omega)
      have bnd : ∀ a b, zPaid su cs sz k → zBtw cs sz k a b → a < n ∧ b < n := fun a b h1 h2 => by
        have h3 := (hN 0 h1.1).2.1.2
        have h4 := h2 0 h1.1
        omega
      have none : ¬ zPaid su cs sz k → ∀ a b, ¬ zBR nm np ns sz k a b := fun h a b z => h ((hB a b).mp z).1
      rcases hv with ⟨hx0, hv⟩ | ⟨hx1, hv⟩ | ⟨hb, h9⟩
      · rcases hv2 with ⟨_, rfl⟩ | ⟨he, _⟩ | ⟨he, _⟩
        · rcases hv with ⟨h1, rfl⟩ | ⟨h1, rfl⟩
          · have e := zPrX_eq hn (B := zBtw cs sz k) (B2 := zBR nm np ns sz k) (fun a b => ⟨fun z => (hB a b).mpr ⟨h1, z⟩, fun z => ((hB a b).mp z).2⟩) (fun a b z => bnd a b h1 z)
            have hle := zPrX_le (zBR nm np ns sz k) hn n
            exact ⟨_, by omega, rfl, by rw [e]⟩
          · have e : zPrX (zBR nm np ns sz k) n n = 0 := by
              have : ∀ m, zPrX (zBR nm np ns sz k) n m = 0 := by
                intro m
                induction m with
                | zero => rfl
                | succ m ih =>
                  show zPrX (zBR nm np ns sz k) n m + zPrB (zBR nm np ns sz k) m n = 0
                  rw [ih, zPrB_no (none h1 m)]
              exact this n
            exact ⟨0, by omega, rfl, by rw [e]; rfl⟩
        · exact absurd he.2 (by omega)
        · exact absurd ⟨c1, by omega⟩ he
      · rcases hv2 with ⟨he, _⟩ | ⟨_, r2, rfl, h2⟩ | ⟨he, _⟩
        · exact absurd he.2 (by omega)
        · have hr2 : -4 ≤ r2 ∧ r2 ≤ 100 := by
            rcases h2 with ⟨rfl, _⟩ | ⟨a, b, b1, b2, _, rfl, _⟩ <;> omega
          rcases hv with ⟨h1, q, rfl, hq⟩ | ⟨h1, rfl⟩
          · have e := zFirst_eq hn (B := zBtw cs sz k) (B2 := zBR nm np ns sz k) (fun a b => ⟨fun z => (hB a b).mpr ⟨h1, z⟩, fun z => ((hB a b).mp z).2⟩) (fun a b z => bnd a b h1 z) hq h2
            exact ⟨r2, by omega, by rw [e], rfl⟩
          · rcases h2 with ⟨rfl, _⟩ | ⟨a, b, _, _, b3, _⟩
            · exact ⟨-4, by omega, rfl, rfl⟩
            · exact absurd b3 (none h1 a b)
        · exact absurd ⟨c1, by omega⟩ he
      · rcases hv2 with ⟨he, _⟩ | ⟨he, _⟩ | ⟨_, rfl⟩
        · exact absurd ⟨he.1, by omega⟩ hb
        · exact absurd ⟨he.1, by omega⟩ hb
        · exact ⟨-1, by omega, h9, rfl⟩
    · rcases hv with ⟨⟨he, _⟩, _⟩ | ⟨⟨he, _⟩, _⟩ | ⟨_, rfl⟩
      · exact absurd he c1
      · exact absurd he c1
      · rcases hv2 with ⟨⟨he, _⟩, _⟩ | ⟨⟨he, _⟩, _⟩ | ⟨_, rfl⟩
        · exact absurd he c1
        · exact absurd he c1
        · exact ⟨-1, by omega, rfl, rfl⟩
