/-! THE TWO SIDE BY SIDE: images -/
theorem zRT_tr {w ks ss : Int → Int} {n : Nat} {who ties : Int} {su : Int → Int} {cs : Nat → zCD} {sz : Nat} {w2 ks2 ss2 la su2 nm np ns : Int → Int} {W K S SU : Int → Int} {CS : Nat → zCD} {W2 K2 S2 LA SU2 NM NP NS : Int → Int}
    (h : zRT w ks ss n who ties su cs sz w2 ks2 ss2 la su2 nm np ns) (hw : zAgW W w) (hk : zAgS n K ks) (hs : zAgS n S ss) (hsu : ∀ i : Nat, i < sz → SU i = su i) (hcs : ∀ i : Nat, i < sz → (CS i).2.2 = (cs i).2.2 ∧ zAgS (cs i).2.2.1 (CS i).2.1 (cs i).2.1)
    (hw2 : zAgW W2 w2) (hk2 : zAgS n K2 ks2) (hs2 : zAgS n S2 ss2) (hla : LA 0 = la 0 ∧ LA 1 = la 1) (hsu2 : ∀ i : Nat, i < sz → SU2 i = su2 i) (hnm : ∀ i : Nat, i < sz → NM i = nm i) (hnp : ∀ i : Nat, i < sz → NP i = np i) (hns : ∀ i g : Nat, i < sz → g < (cs i).2.2.1 → NS (9 * (i : Int) + g) = ns (9 * (i : Int) + g)) :
    zRT W K S n who ties SU CS sz W2 K2 S2 LA SU2 NM NP NS := by
  obtain ⟨hL, ⟨l0, l1⟩, ⟨hW, hWa⟩, ⟨hK, hKa⟩, ⟨hS, hSa⟩, hz, hN⟩ := h
  refine ⟨hL, ⟨hla.1.trans l0, hla.2.trans l1⟩, ⟨fun j hj => by rw [hw j hj]; exact hW j hj, fun j hj => by rw [hw j hj, hw2 j hj]; exact hWa j hj⟩, ⟨fun j hj => by rw [hk j hj]; exact hK j hj, fun j hj => by rw [hk j hj, hk2 j hj]; exact hKa j hj⟩, ⟨fun j hj => by rw [hs j hj]; exact hS j hj, fun j hj => by rw [hs j hj, hs2 j hj]; exact hSa j hj⟩, hz, fun i hi => ?_⟩
  obtain ⟨a1, a2, a3, a4, a5, a6, a7⟩ := hN i hi
  obtain ⟨c1, c2⟩ := hcs i hi
  unfold zRN1 zOkC
  rw [c1, hsu i hi, hsu2 i hi, hnm i hi, hnp i hi, zPay_c c2]
  exact ⟨⟨a1.1, fun j hj => by rw [c2 j hj]; exact a1.2.1 j hj, a1.2.2⟩, a2, a3, a4, a5, a6, fun g hg => by rw [hns i g hi hg, c2 g hg]; exact a7 g hg⟩
theorem zCpy_w {f g : Int → Int} : zAgW (z_cpy f g 21) f := fun j hj => by unfold z_cpy; rw [if_pos (by omega)]
theorem zCpy_s {f g : Int → Int} {n : Nat} (hn : n ≤ 9) : zAgS n (z_cpy f g 9) f := fun j hj => by unfold z_cpy; rw [if_pos (by omega)]
theorem zMx_i {f g : Int → Int} {i n : Nat} (h : i < n) : zMx f g n i = f i := by unfold zMx; rw [if_pos (by omega)]
theorem zMxC_i {cs cs' : Nat → zCD} {sz i : Nat} (h : i < sz) (h9 : (cs' i).2.2.1 ≤ 9) : (zMxC cs cs' sz i).2.2 = (cs' i).2.2 ∧ zAgS (cs' i).2.2.1 (zMxC cs cs' sz i).2.1 (cs' i).2.1 := by
  unfold zMxC
  rw [if_pos h]
  exact ⟨rfl, zCpy_s h9⟩
theorem zKx_i {f : Int → Int} {o n : Nat} {kp : Int → Int} {i j : Nat} (hj : j < n) (h : o + j < i) : zKx f o n kp i j = kp ((o : Int) + j) := by
  unfold zKx; rw [if_pos (by omega)]
section Kv
variable {w2 ks2 ss2 la su2 nm np ns kp : Int → Int}
theorem zKp_at {j : Int} (h : 0 ≤ j ∧ j < 185) : zMx (fun j => zKv w2 ks2 ss2 la su2 nm np ns j.toNat) kp 185 j = zKv w2 ks2 ss2 la su2 nm np ns j.toNat := by
  unfold zMx; rw [if_pos (by omega)]
theorem zKv_w2 {j : Nat} (hj : j < 21) : zMx (fun j => zKv w2 ks2 ss2 la su2 nm np ns j.toNat) kp 185 j = w2 j := by
  rw [zKp_at (by omega), Int.toNat_natCast]
  unfold zKv
  rw [if_pos hj]
theorem zKv_ks2 {j : Nat} (hj : j < 9) : zMx (fun j => zKv w2 ks2 ss2 la su2 nm np ns j.toNat) kp 185 (21 + (j : Int)) = ks2 j := by
  rw [zKp_at (by omega), show ((21 : Int) + (j : Int)).toNat = 21 + j by omega]
  unfold zKv
  rw [if_neg (by omega), if_pos (by omega), show ((21 + j : Nat) : Int) - 21 = (j : Int) by omega]
theorem zKv_ss2 {j : Nat} (hj : j < 9) : zMx (fun j => zKv w2 ks2 ss2 la su2 nm np ns j.toNat) kp 185 (30 + (j : Int)) = ss2 j := by
  rw [zKp_at (by omega), show ((30 : Int) + (j : Int)).toNat = 30 + j by omega]
  unfold zKv
  rw [if_neg (by omega), if_neg (by omega), if_pos (by omega), show ((30 + j : Nat) : Int) - 30 = (j : Int) by omega]
theorem zKv_la {j : Nat} (hj : j < 2) : zMx (fun j => zKv w2 ks2 ss2 la su2 nm np ns j.toNat) kp 185 (39 + (j : Int)) = la j := by
  rw [zKp_at (by omega), show ((39 : Int) + (j : Int)).toNat = 39 + j by omega]
  unfold zKv
  rw [if_neg (by omega), if_neg (by omega), if_neg (by omega), if_pos (by omega), show ((39 + j : Nat) : Int) - 39 = (j : Int) by omega]
theorem zKv_su2 {j : Nat} (hj : j < 12) : zMx (fun j => zKv w2 ks2 ss2 la su2 nm np ns j.toNat) kp 185 (41 + (j : Int)) = su2 j := by
  rw [zKp_at (by omega), show ((41 : Int) + (j : Int)).toNat = 41 + j by omega]
  unfold zKv
  rw [if_neg (by omega), if_neg (by omega), if_neg (by omega), if_neg (by omega), if_pos (by omega), show ((41 + j : Nat) : Int) - 41 = (j : Int) by omega]
theorem zKv_nm {j : Nat} (hj : j < 12) : zMx (fun j => zKv w2 ks2 ss2 la su2 nm np ns j.toNat) kp 185 (53 + (j : Int)) = nm j := by
  rw [zKp_at (by omega), show ((53 : Int) + (j : Int)).toNat = 53 + j by omega]
  unfold zKv
  rw [if_neg (by omega), if_neg (by omega), if_neg (by omega), if_neg (by omega), if_neg (by omega), if_pos (by omega), show ((53 + j : Nat) : Int) - 53 = (j : Int) by omega]
theorem zKv_np {j : Nat} (hj : j < 12) : zMx (fun j => zKv w2 ks2 ss2 la su2 nm np ns j.toNat) kp 185 (65 + (j : Int)) = np j := by
  rw [zKp_at (by omega), show ((65 : Int) + (j : Int)).toNat = 65 + j by omega]
  unfold zKv
  rw [if_neg (by omega), if_neg (by omega), if_neg (by omega), if_neg (by omega), if_neg (by omega), if_neg (by omega), if_pos (by omega), show ((65 + j : Nat) : Int) - 65 = (j : Int) by omega]
theorem zKv_ns {j : Nat} (hj : j < 108) : zMx (fun j => zKv w2 ks2 ss2 la su2 nm np ns j.toNat) kp 185 (77 + (j : Int)) = ns j := by
  rw [zKp_at (by omega), show ((77 : Int) + (j : Int)).toNat = 77 + j by omega]
  unfold zKv
  rw [if_neg (by omega), if_neg (by omega), if_neg (by omega), if_neg (by omega), if_neg (by omega), if_neg (by omega), if_neg (by omega), show ((77 + j : Nat) : Int) - 77 = (j : Int) by omega]
end Kv
theorem d_image {wF wM : zW}  (hI : zInv wF wM) : zDual m_Fp_image m_Mo_image [] wF wM := by
  obtain ⟨img, w, ks, ss, n, who, ties, su, cs, sz, w', ks', ss', n', who', ties', su', cs', sz', b, tn, tp, fl, rs, rc, sh, w2, ks2, ss2, la, su2, nm, np, ns, tp2, pl, rs2, rd2, lp, ik, kp, km, kn, ln, rz, it, rfl, rfl, hT, hI, hB, hH⟩ := hI
  obtain ⟨hL, ⟨hl0, hl1⟩, ⟨hW, hWa⟩, ⟨hK, hKa⟩, ⟨hS, hSa⟩, hz, hN⟩ := id hT
  have hn := hL.1
  refine ⟨_, _, c_Fp_image hz, c_Mo_image, fun v wa hv => ?_, fun v wa v2 wb hv hv2 => ?_⟩
  · obtain ⟨rfl, _⟩ := hv; exact ⟨_, rfl⟩
  · obtain ⟨rfl, rfl⟩ := hv
    obtain ⟨rfl, rfl⟩ := hv2
    have hT2 : zRT (z_cpy w w' 21) (z_cpy ks ks' 9) (z_cpy ss ss' 9) n who ties (zMx su su' sz) (zMxC cs' cs sz) sz (zMx (fun j => zKv w2 ks2 ss2 la su2 nm np ns j.toNat) kp 185) (fun j => zMx (fun j => zKv w2 ks2 ss2 la su2 nm np ns j.toNat) kp 185 (21 + j)) (fun j => zMx (fun j => zKv w2 ks2 ss2 la su2 nm np ns j.toNat) kp 185 (30 + j)) (fun j => zMx (fun j => zKv w2 ks2 ss2 la su2 nm np ns j.toNat) kp 185 (39 + j)) (fun j => zMx (fun j => zKv w2 ks2 ss2 la su2 nm np ns j.toNat) kp 185 (41 + j)) (fun j => zMx (fun j => zKv w2 ks2 ss2 la su2 nm np ns j.toNat) kp 185 (53 + j)) (fun j => zMx (fun j => zKv w2 ks2 ss2 la su2 nm np ns j.toNat) kp 185 (65 + j)) (fun j => zMx (fun j => zKv w2 ks2 ss2 la su2 nm np ns j.toNat) kp 185 (77 + j)) := by
      refine zRT_tr hT zCpy_w (zCpy_s hn) (zCpy_s hn) (fun i hi => zMx_i hi) (fun i hi => zMxC_i hi (hN i hi).1.1) (fun j hj => zKv_w2 hj) (fun j hj => zKv_ks2 (by omega)) (fun j hj => zKv_ss2 (by omega)) ⟨zKv_la (j := 0) (by omega), zKv_la (j := 1) (by omega)⟩ (fun i hi => zKv_su2 (by omega)) (fun i hi => zKv_nm (by omega)) (fun i hi => zKv_np (by omega)) (fun i g hi hg => ?_)
      have h9 := (hN i hi).1.1
      have h1 := zKv_ns (w2 := w2) (ks2 := ks2) (ss2 := ss2) (la := la) (su2 := su2) (nm := nm) (np := np) (ns := ns) (kp := kp) (j := 9 * i + g) (by omega)
      rw [show ((9 * i + g : Nat) : Int) = 9 * (i : Int) + (g : Int) by omega] at h1
      exact h1
    exact ⟨⟨1, by omega, rfl, rfl⟩, ⟨_, _, _, _, _, _, _, _, _, _, _, _, _, _, _, _, _, _, _, _, _, _, _, _, _, _, _, _, _, _, _, _, _, _, _, _, _, _, _, _, _, _, _, _, _, _, rfl, rfl, hT, ⟨⟨hz, n, sz, rfl, rfl⟩, Or.inr ⟨rfl, rfl, rfl, rfl, hT2⟩⟩, hB, hH⟩⟩
theorem d_restore {wF wM : zW}  (hI : zInv wF wM) : zDual m_Fp_restore m_Mo_restore [] wF wM := by
  obtain ⟨img, w, ks, ss, n, who, ties, su, cs, sz, w', ks', ss', n', who', ties', su', cs', sz', b, tn, tp, fl, rs, rc, sh, w2, ks2, ss2, la, su2, nm, np, ns, tp2, pl, rs2, rd2, lp, ik, kp, km, kn, ln, rz, it, rfl, rfl, hT, hI, hB, hH⟩ := hI
  obtain ⟨hL, ⟨hl0, hl1⟩, ⟨hW, hWa⟩, ⟨hK, hKa⟩, ⟨hS, hSa⟩, hz, hN⟩ := id hT
  have hn := hL.1
  obtain ⟨⟨hz2, m2, z2, hkm, hkn⟩, hIr⟩ := id hI
  have himg : img = 0 ∨ img = 1 := by rcases hIr with h | h <;> omega
  have hik : ik = 0 ∨ ik = 1 := by rcases hIr with h | h <;> omega
  refine ⟨_, _, c_Fp_restore himg hz2, c_Mo_restore hik hkm hkn, fun v wa hv => ?_, fun v wa v2 wb hv hv2 => ?_⟩
  · rcases hv with ⟨_, rfl, _⟩ | ⟨_, rfl, _⟩ <;> exact ⟨_, rfl⟩
  · rcases hIr with ⟨i0, k0⟩ | ⟨i1, k1, e1, e2, hT2⟩
    · rcases hv with ⟨_, rfl, rfl⟩ | ⟨he, _, _⟩
      · rcases hv2 with ⟨_, rfl, rfl⟩ | ⟨he, _, _⟩
        · exact ⟨⟨-4, by omega, rfl, rfl⟩, ⟨_, _, _, _, _, _, _, _, _, _, _, _, _, _, _, _, _, _, _, _, _, _, _, _, _, _, _, _, _, _, _, _, _, _, _, _, _, _, _, _, _, _, _, _, _, _, rfl, rfl, hT, hI, hB, hH⟩⟩
        · exact absurd he (by omega)
      · exact absurd he (by omega)
    · rcases hv with ⟨he, _, _⟩ | ⟨_, rfl, rfl⟩
      · exact absurd he (by omega)
      · rcases hv2 with ⟨he, _, _⟩ | ⟨_, rfl, rfl⟩
        · exact absurd he (by omega)
        · obtain rfl : m2 = n' := by omega
          obtain rfl : z2 = sz' := by omega
          have hN2 := hT2.2.2.2.2.2.2
          have hn2 := hT2.1.1
          have hT3 : zRT (z_cpy w' w 21) (z_cpy ks' ks 9) (z_cpy ss' ss 9) m2 who' ties' (zMx su' su z2) (zMxC cs cs' z2) z2 (zKx w2 0 21 kp 185) (zKx ks2 21 9 kp 185) (zKx ss2 30 9 kp 185) (zKx la 39 2 kp 185) (zKx su2 41 12 kp 185) (zKx nm 53 12 kp 185) (zKx np 65 12 kp 185) (zKx ns 77 108 kp 185) := by
            refine zRT_tr hT2 zCpy_w (zCpy_s hn2) (zCpy_s hn2) (fun i hi => zMx_i hi) (fun i hi => zMxC_i hi (hN2 i hi).1.1) (fun j hj => ?_) (fun j hj => zKx_i (o := 21) (by omega) (by omega)) (fun j hj => zKx_i (o := 30) (by omega) (by omega)) ⟨zKx_i (o := 39) (j := 0) (by omega) (by omega), zKx_i (o := 39) (j := 1) (by omega) (by omega)⟩ (fun i hi => zKx_i (o := 41) (by omega) (by omega)) (fun i hi => zKx_i (o := 53) (by omega) (by omega)) (fun i hi => zKx_i (o := 65) (by omega) (by omega)) (fun i g hi hg => ?_)
            · rw [zKx_i hj (by omega)]
              rw [show ((0 : Nat) : Int) + (j : Int) = (j : Int) by omega]
            · have h9 := (hN2 i hi).1.1
              have h1 := zKx_i (f := ns) (o := 77) (n := 108) (kp := kp) (i := 185) (j := 9 * i + g) (by omega) (by omega)
              rw [show ((9 * i + g : Nat) : Int) = 9 * (i : Int) + (g : Int) by omega] at h1
              exact h1
          exact ⟨⟨1, by omega, rfl, rfl⟩, ⟨_, _, _, _, _, _, _, _, _, _, _, _, _, _, _, _, _, _, _, _, _, _, _, _, _, _, _, _, _, _, _, _, _, _, _, _, _, _, _, _, _, _, _, _, _, _, rfl, rfl, hT3, hI, hB, hH⟩⟩
