/-! THE RELATION between the class's cells and the reference's -/
section MoPay
variable {w ks ss : Int → Int} {n : Nat} {la su nm np ns : Int → Int} {sz : Nat} {tp : Int → Int} {tn pl : Nat} {rs : Int} {rd : Int → Int} {lp ik : Int} {kp : Int → Int} {km kn : Int} {ln rz it : Int → Int}
theorem c_Mo_pay {x : Int} (hx : -2147483648 ≤ x ∧ x ≤ 2147483647) (hL : zOkL n (la 0) (la 1)) (hS : zOkS ss n) :
    zMet m_Mo_pay [.inr (.inr 0), .inl x] (wMo w ks ss n la su nm np ns sz tp tn pl rs rd lp ik kp km kn ln rz it) (fun v wd => v = some (.inl (if ¬ (0 ≤ x ∧ x < 21) then -1 else if n = 0 then -4 else ((zMaskN (zPay ss n (la 0) (la 1) x) n : Nat) : Int))) ∧ wd = wMo w ks ss n la su nm np ns sz tp tn pl rs rd lp ik kp km kn ln rz it) := by
  obtain ⟨hn, hlw, hla⟩ := hL
  refine zMet.of (own := RX7) rfl (by decide +kernel) tk_Mo_pay fok_Mo cok_Mo (Nat.le_of_ble_eq_true rfl) (fun G hG => ?_)
  refine hG.1 [] 80 _ _ _ _ ?_
  refine ⟨by omega, ?_⟩
  refine hG.2.2.1 (c_Mo_isSum (x := x) (by omega)) ys_Mo_isSum (Or.inl lk_Mo_63) (by decide +kernel) rfl [] (by decide +kernel) rfl rfl rfl (Nat.le_of_ble_eq_true rfl) (fun v w2 hv hl2 => ?_)
  obtain ⟨⟨hc, rfl⟩ | ⟨hc, rfl⟩, rfl⟩ := hv
  · change G _ _ _ (wMo w ks ss n la su nm np ns sz tp tn pl rs rd lp ik kp km kn ln rz it)
    refine hG.1 [] 80 _ _ _ _ ?_
    refine ⟨by omega, fun q => ?_, fun q => absurd q (by omega)⟩
    refine ⟨by omega, fun h1 => ?_, fun h1 => ?_⟩
    · refine hG.2.1 (c_Mo_payers2 (sum := x) (show 1 ≤ n by omega) hn hS (by omega) hlw hla) yv_Mo_payers lk_Mo_150 (by decide +kernel) rfl rfl [0, 1, 2, 3, 4, 5, 6, 7, 8, 9, 10, 11, 12, 13, 14] (by decide +kernel) rfl rfl rfl (Nat.le_of_ble_eq_true rfl) (fun v w2 hv hl2 => ?_)
      obtain ⟨rfl, rfl⟩ := hv
      change G _ _ _ (wMo w ks ss n la su nm np ns sz tp tn pl rs rd lp ik kp km kn ln rz it)
      refine hG.1 [] 80 _ _ _ _ ?_
      exact ⟨trivial, by rw [if_neg (fun z => z hc), if_neg (by omega)] <;> rfl, rfl⟩
    · exact ⟨trivial, by rw [if_neg (fun z => z hc), if_pos (by omega)], rfl⟩
  · change G _ _ _ (wMo w ks ss n la su nm np ns sz tp tn pl rs rd lp ik kp km kn ln rz it)
    refine hG.1 [] 80 _ _ _ _ ?_
    refine ⟨by omega, fun q => absurd rfl q, fun q => ?_⟩
    exact ⟨trivial, by rw [if_pos hc], rfl⟩
end MoPay
def zRN1 (n : Nat) (su : Int → Int) (cs : Nat → zCD) (su2 nm np ns : Int → Int) (i : Nat) : Prop := zOkC (cs i) ∧ (1 ≤ (cs i).2.2.1 ∧ (cs i).2.2.1 ≤ n) ∧ (0 ≤ su i ∧ su i ≤ 20) ∧ su2 i = su i ∧ nm i = ((cs i).2.2.1 : Int) ∧ np i = ((zMaskN (zPay (cs i).2.1 (cs i).2.2.1 (cs i).2.2.2.1 (cs i).2.2.2.2 (su i)) (cs i).2.2.1 : Nat) : Int) ∧ ∀ g : Nat, g < (cs i).2.2.1 → ns (9 * (i : Int) + g) = (cs i).2.1 g
def zRN (n : Nat) (su : Int → Int) (cs : Nat → zCD) (sz : Nat) (su2 nm np ns : Int → Int) : Prop := ∀ i, i < sz → zRN1 n su cs su2 nm np ns i
def zRT (w ks ss : Int → Int) (n : Nat) (who ties : Int) (su : Int → Int) (cs : Nat → zCD) (sz : Nat) (w2 ks2 ss2 la su2 nm np ns : Int → Int) : Prop :=
  zOkL n who ties ∧ (la 0 = who ∧ la 1 = ties) ∧ (zOkW w ∧ zAgW w w2) ∧ (zOkK ks n ∧ zAgS n ks ks2) ∧ (zOkS ss n ∧ zAgS n ss ss2) ∧ sz ≤ 12 ∧ zRN n su cs sz su2 nm np ns
def zRI (img : Int) (w' ks' ss' : Int → Int) (n' : Nat) (who' ties' : Int) (su' : Int → Int) (cs' : Nat → zCD) (sz' : Nat) (ik : Int) (kp : Int → Int) (km kn : Int) : Prop :=
  (sz' ≤ 12 ∧ ∃ m2 z2 : Nat, km = (m2 : Int) ∧ kn = (z2 : Int)) ∧ ((img = 0 ∧ ik = 0) ∨ (img = 1 ∧ ik = 1 ∧ km = (n' : Int) ∧ kn = (sz' : Int) ∧ zRT w' ks' ss' n' who' ties' su' cs' sz' kp (fun j => kp (21 + j)) (fun j => kp (30 + j)) (fun j => kp (39 + j)) (fun j => kp (41 + j)) (fun j => kp (53 + j)) (fun j => kp (65 + j)) (fun j => kp (77 + j))))
def zRB (b : Int → Int) (tn : Nat) (tp2 : Int → Int) : Prop := tp2 = b ∧ tn ≤ 80 ∧ ∀ j : Nat, j < tn → 32 ≤ b j ∧ b j ≤ 126
def zRH1 (s : zSD) (l r : Int) (it : Int → Int) (i : Nat) : Prop := (s.2.2 = -1 ∧ l = -1) ∨ (s.2.2 ≠ -1 ∧ l = s.2.1 ∧ r = s.2.2 ∧ ∀ j : Nat, (j : Int) < s.2.2 → it (24 * (i : Int) + j) = s.1 j)
def zRH (sh : Nat → zSD) (ln rz it : Int → Int) : Prop := (∀ i : Nat, i < 4 → zOkH (sh i) ∧ ((-1 ≤ ln i ∧ ln i ≤ 2) ∧ (0 ≤ rz i ∧ rz i ≤ 24)) ∧ zRH1 (sh i) (ln i) (rz i) it i) ∧ ∀ j : Int, -9223372036854775808 ≤ it j ∧ it j ≤ 9223372036854775807
def zInv (wF wM : zW) : Prop := ∃ (img : Int) (w : Int → Int) (ks : Int → Int) (ss : Int → Int) (n : Nat) (who : Int) (ties : Int) (su : Int → Int) (cs : Nat → zCD) (sz : Nat) (w' : Int → Int) (ks' : Int → Int) (ss' : Int → Int) (n' : Nat) (who' : Int) (ties' : Int) (su' : Int → Int) (cs' : Nat → zCD) (sz' : Nat) (b : Int → Int) (tn : Nat) (tp : Nat) (fl : Int) (rs : Int → Int) (rc : zCD) (sh : Nat → zSD) (w2 : Int → Int) (ks2 : Int → Int) (ss2 : Int → Int) (la : Int → Int) (su2 : Int → Int) (nm : Int → Int) (np : Int → Int) (ns : Int → Int) (tp2 : Int → Int) (pl : Nat) (rs2 : Int) (rd2 : Int → Int) (lp : Int) (ik : Int) (kp : Int → Int) (km : Int) (kn : Int) (ln : Int → Int) (rz : Int → Int) (it : Int → Int), wF = wFp img w ks ss n who ties su cs sz (zKs w' ks' ss' n' who' ties' su' cs' sz' (zTs b tn tp fl rs rc sh)) ∧ wM = wMo w2 ks2 ss2 n la su2 nm np ns sz tp2 tn pl rs2 rd2 lp ik kp km kn ln rz it ∧ zRT w ks ss n who ties su cs sz w2 ks2 ss2 la su2 nm np ns ∧ zRI img w' ks' ss' n' who' ties' su' cs' sz' ik kp km kn ∧ zRB b tn tp2 ∧ zRH sh ln rz it
def zSame (v v2 : Option zV) : Prop := ∃ r : Int, (-2147483648 ≤ r ∧ r ≤ 2147483647) ∧ v = some (.inl r) ∧ v2 = some (.inl r)
def zSamL (v v2 : Option zV) : Prop := ∃ r : Int, (-9223372036854775808 ≤ r ∧ r ≤ 9223372036854775807) ∧ v = some (.inr (.inl r)) ∧ v2 = some (.inr (.inl r))
def zDual (mF mM : zM) (As : List zV) (wF wM : zW) : Prop := ∃ (PF PM : Option zV → zW → Prop), zMet mF (.inr (.inr 0) :: As) wF PF ∧ zMet mM (.inr (.inr 0) :: As) wM PM ∧ (∀ v wa, PF v wa → ∃ r : Int, v = some (.inl r)) ∧ ∀ v wa v2 wb, PF v wa → PM v2 wb → zSame v v2 ∧ zInv wa wb
def zDuaL (mF mM : zM) (As : List zV) (wF wM : zW) : Prop := ∃ (PF PM : Option zV → zW → Prop), zMet mF (.inr (.inr 0) :: As) wF PF ∧ zMet mM (.inr (.inr 0) :: As) wM PM ∧ (∀ v wa, PF v wa → ∃ r : Int, v = some (.inr (.inl r))) ∧ ∀ v wa v2 wb, PF v wa → PM v2 wb → zSamL v v2 ∧ zInv wa wb
theorem zRN_up {n n2 : Nat} {su : Int → Int} {cs : Nat → zCD} {sz : Nat} {su2 nm np ns : Int → Int} (h : n ≤ n2) (hN : zRN n su cs sz su2 nm np ns) : zRN n2 su cs sz su2 nm np ns := fun i hi => by
  obtain ⟨a, b, c⟩ := hN i hi
  exact ⟨a, ⟨b.1, by omega⟩, c⟩
theorem zRN_0 {n : Nat} {su : Int → Int} {cs : Nat → zCD} {su2 nm np ns : Int → Int} : zRN n su cs 0 su2 nm np ns := fun i hi => absurd hi (Nat.not_lt_zero i)
theorem zAgW_u {f g : Int → Int} {x y : Int} (h : zAgW f g) : zAgW (z_u f x y) (z_u g x y) := fun j hj => by
  unfold z_u
  by_cases e : (j : Int) = x
  · rw [if_pos e, if_pos e]
  · rw [if_neg e, if_neg e]; exact h j hj
theorem zOkW_u {f : Int → Int} {x y : Int} (h : zOkW f) (hy : 0 ≤ y ∧ y ≤ 99) : zOkW (z_u f x y) := fun j hj => by
  unfold z_u; split
  · exact hy
  · exact h j hj
