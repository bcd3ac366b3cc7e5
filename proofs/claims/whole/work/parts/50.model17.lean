/-! THE REFERENCE: suppers, guests out of a text -/
def zAgW (f g : Int → Int) : Prop := ∀ j : Nat, j < 21 → f j = g j
theorem zMx_at (f g : Int → Int) (i : Nat) : zMx f g i i = g i := by unfold zMx; rw [if_neg (by omega)]
theorem zMx_0 (f g : Int → Int) : zMx f g 0 = g := by funext j; unfold zMx; rw [if_neg (by omega)]
section M17
variable {w ks ss : Int → Int} {n : Nat} {la su nm np ns : Int → Int} {sz : Nat} {tp : Int → Int} {tn pl : Nat} {rs : Int} {rd : Int → Int} {lp ik : Int} {kp : Int → Int} {km kn : Int} {ln rz it : Int → Int}
theorem c_Mo_readCourse {W : Int → Int} (hA : zAgW rd W) (hW : ∀ j : Nat, j < 21 → 0 ≤ W j ∧ W j ≤ 99) (ht : tn ≤ 80) (hp : pl ≤ tn) (hb : ∀ j : Nat, j < tn → 32 ≤ tp j ∧ tp j ≤ 126) :
    zMet m_Mo_readCourse [.inr (.inr 0)] (wMo w ks ss n la su nm np ns sz tp tn pl rs rd lp ik kp km kn ln rz it) (fun v wd =>
      (∃ f, zDish tp tn W pl = .inl f ∧ v = some (.inl 0) ∧ ∃ r2 : Int → Int, wd = wMo w ks ss n la su nm np ns sz tp tn (f) rs (r2) lp ik kp km kn ln rz it) ∨
      (∃ r, zDish tp tn W pl = .inr r ∧ v = some (.inl 1) ∧ ∃ r2 : Int → Int, zAgW r2 r.1 ∧ wd = wMo w ks ss n la su nm np ns sz tp tn (r.2) rs (r2) lp ik kp km kn ln rz it)) := by
  have h0 := zSk_in (b := tp) hp
  have hid := zSk_id (b := tp) hp
  have hd : zDish tp tn W pl = if zBadNum tp tn (zSk tp tn pl) 0 20 then .inl (zSk tp tn pl)
    else if 0 < W (zNum tp tn (zSk tp tn pl)) then .inl (zSk tp tn pl)
    else if ¬ zNx tp tn (zSk tp tn (zDg tp tn (zSk tp tn pl))) = 120 then .inl (zSk tp tn (zDg tp tn (zSk tp tn pl)))
    else if zBadNum tp tn (zSk tp tn (zSk tp tn (zDg tp tn (zSk tp tn pl)) + 1)) 1 99 then .inl (zSk tp tn (zSk tp tn (zDg tp tn (zSk tp tn pl)) + 1))
    else .inr (z_u W (zNum tp tn (zSk tp tn pl)) (zNum tp tn (zSk tp tn (zSk tp tn (zDg tp tn (zSk tp tn pl)) + 1))), zDg tp tn (zSk tp tn (zSk tp tn (zDg tp tn (zSk tp tn pl)) + 1))) := rfl
  generalize hq0 : zSk tp tn pl = q0 at h0 hid hd
  have h1 := zDg_in (b := tp) h0.2
  have h2 := zSk_in (b := tp) h1.2
  have hX := zNx_in hb (zSk tp tn (zDg tp tn q0))
  generalize hD : zDish tp tn W pl = R at hd ⊢
  refine zMet.of (own := RX7) rfl (by decide +kernel) tk_Mo_readCourse fok_Mo cok_Mo (Nat.le_of_ble_eq_true rfl) (fun G hG => ?_)
  refine hG.1 [] 80 _ _ _ _ ?_
  refine hG.2.1 (c_Mo_nextByte ht hp hb) yv_Mo_nextByte lk_Mo_102 (by decide +kernel) rfl rfl [0, 1, 2, 3, 4, 5, 6, 7, 8, 9, 10, 11, 12, 13, 14] (by decide +kernel) rfl rfl rfl (Nat.le_of_ble_eq_true rfl) (fun v w2 hv hl2 => ?_)
  obtain ⟨rfl, rfl⟩ := hv
  change G _ _ _ (wMo w ks ss n la su nm np ns sz tp tn (zSk tp tn pl) rs rd lp ik kp km kn ln rz it)
  rw [hq0]
  refine hG.1 [] 80 _ _ _ _ ?_
  refine hG.2.1 (c_Mo_readNumber (pl := q0) (lo := 0) (hi := 20) ht h0.2 hb (by omega) (by omega)) yv_Mo_readNumber lk_Mo_109 (by decide +kernel) rfl rfl [0, 1, 2, 3, 4, 5, 6, 7, 8, 9, 10, 11, 12, 13, 14] (by decide +kernel) rfl rfl rfl (Nat.le_of_ble_eq_true rfl) (fun v w2 hv hl2 => ?_)
  rw [hid] at hv
  rcases hv with ⟨hbad, rfl, rfl⟩ | ⟨hgood, rfl, rfl⟩
  · change G _ _ _ (wMo w ks ss n la su nm np ns sz tp tn (q0) rs rd lp ik kp km kn ln rz it)
    rw [if_pos hbad] at hd
    refine hG.1 [] 80 _ _ _ _ ?_
    refine ⟨by omega, fun q => absurd q (by omega), fun q => ?_⟩
    exact ⟨Or.inl rfl, Or.inl ⟨q0, hd, rfl, rd, rfl⟩⟩
  · change G _ _ _ (wMo w ks ss n la su nm np ns sz tp tn (zDg tp tn q0) rs rd lp ik kp km kn ln rz it)
    have hg2 : ¬ (zNum tp tn q0 < 0 ∨ 20 < zNum tp tn q0) := fun z => hgood (Or.inr z)
    rw [if_neg hgood] at hd
    obtain ⟨k, hk⟩ := z_nat (show 0 ≤ zNum tp tn q0 by omega)
    rw [hk] at hd hg2 ⊢
    have hAk := hA k (by omega)
    have hWk := hW k (by omega)
    refine hG.1 [] 80 _ _ _ _ ?_
    refine ⟨by omega, fun q => ?_, fun q => absurd q (by omega)⟩
    refine ⟨by omega, by omega, fun a2 => ?_, fun a2 => ?_⟩
    · rw [if_neg (by omega)] at hd
      refine hG.2.1 (c_Mo_nextByte (pl := zDg tp tn q0) ht h1.2 hb) yv_Mo_nextByte lk_Mo_102 (by decide +kernel) rfl rfl [0, 1, 2, 3, 4, 5, 6, 7, 8, 9, 10, 11, 12, 13, 14] (by decide +kernel) rfl rfl rfl (Nat.le_of_ble_eq_true rfl) (fun v w2 hv hl2 => ?_)
      obtain ⟨rfl, rfl⟩ := hv
      change G _ _ _ (wMo w ks ss n la su nm np ns sz tp tn (zSk tp tn (zDg tp tn q0)) rs rd lp ik kp km kn ln rz it)
      refine hG.1 [] 80 _ _ _ _ ?_
      refine ⟨by omega, fun a3 => ?_, fun a3 => ?_⟩
      · have hlt := (zNx_lt a3 (by omega)).1
        rw [if_neg (fun z => z a3)] at hd
        have h3 := zSk_in (b := tp) (show zSk tp tn (zDg tp tn q0) + 1 ≤ tn by omega)
        refine hG.2.1 (c_Mo_readNumber (pl := zSk tp tn (zDg tp tn q0) + 1) (lo := 1) (hi := 99) ht (show zSk tp tn (zDg tp tn q0) + 1 ≤ tn by omega) hb (by omega) (by omega)) yv_Mo_readNumber lk_Mo_109 (by decide +kernel) rfl rfl [0, 1, 2, 3, 4, 5, 6, 7, 8, 9, 10, 11, 12, 13, 14] (by decide +kernel) rfl rfl rfl (Nat.le_of_ble_eq_true rfl) (fun v w2 hv hl2 => ?_)
        rcases hv with ⟨hbad, rfl, rfl⟩ | ⟨hgood2, rfl, rfl⟩
        · change G _ _ _ (wMo w ks ss n la su nm np ns sz tp tn (zSk tp tn (zSk tp tn (zDg tp tn q0) + 1)) rs rd lp ik kp km kn ln rz it)
          rw [if_pos hbad] at hd
          refine hG.1 [] 80 _ _ _ _ ?_
          refine ⟨by omega, fun q1 => absurd q1 (by omega), fun q1 => ?_⟩
          refine ⟨by omega, ?_⟩
          refine ⟨by omega, fun q2 => ?_, fun q2 => absurd q2 (by omega)⟩
          exact ⟨Or.inl rfl, Or.inl ⟨_, hd, rfl, _, rfl⟩⟩
        · change G _ _ _ (wMo w ks ss n la su nm np ns sz tp tn (zDg tp tn (zSk tp tn (zSk tp tn (zDg tp tn q0) + 1))) rs rd lp ik kp km kn ln rz it)
          rw [if_neg hgood2] at hd
          have hg4 : ¬ (zNum tp tn (zSk tp tn (zSk tp tn (zDg tp tn q0) + 1)) < 1 ∨ 99 < zNum tp tn (zSk tp tn (zSk tp tn (zDg tp tn q0) + 1))) := fun z => hgood2 (Or.inr z)
          refine hG.1 [] 80 _ _ _ _ ?_
          refine ⟨by omega, fun q1 => ?_, fun q1 => absurd q1 (by omega)⟩
          refine ⟨by omega, ?_⟩
          refine ⟨by omega, fun q2 => absurd q2 (by omega), fun q2 => ?_⟩
          refine ⟨Or.inr rfl, Or.inr ⟨_, hd, rfl, _, fun j hj => ?_, rfl⟩⟩
          show z_u rd k _ j = z_u W k _ j
          unfold z_u
          split
          · rfl
          · exact hA j hj
      · rw [if_pos a3] at hd
        exact ⟨Or.inl rfl, Or.inl ⟨_, hd, rfl, rd, rfl⟩⟩
    · rw [if_pos (by omega)] at hd
      exact ⟨Or.inl rfl, Or.inl ⟨q0, hd, rfl, rd, rfl⟩⟩
theorem c_Mo_readSupper {W : Int → Int} (hW : ∀ j : Nat, j < 21 → W j = 0) (ht : tn ≤ 80) (hb : ∀ j : Nat, j < tn → 32 ≤ tp j ∧ tp j ≤ 126) :
    zMet m_Mo_readSupper [.inr (.inr 0)] (wMo w ks ss n la su nm np ns sz tp tn pl rs rd lp ik kp km kn ln rz it) (fun v wd =>
      (∃ f, zMeal tp tn 8 W 0 = .inl f ∧ (f ≤ tn ∧ zSk tp tn f = f) ∧ v = some (.inl 0) ∧ ∃ r2 : Int → Int, wd = wMo w ks ss n la su nm np ns sz tp tn (f) rs (r2) lp ik kp km kn ln rz it) ∨
      (∃ r, zMeal tp tn 8 W 0 = .inr r ∧ v = some (.inl 1) ∧ ∃ (r2 : Int → Int) (p2 : Nat), zAgW r2 r ∧ wd = wMo w ks ss n la su nm np ns sz tp tn (p2) rs (r2) lp ik kp km kn ln rz it)) := by
  refine zMet.of (own := RX7) rfl (by decide +kernel) tk_Mo_readSupper fok_Mo cok_Mo (Nat.le_of_ble_eq_true rfl) (fun G hG => ?_)
  refine hG.1 [7] 80 _ _ _ _ ?_
  suffices L : G 7 [(0, .inr (.inr 0)), (1, .inl ((0 : Nat) : Int))] [] (wMo w ks ss n la su nm np ns sz tp tn (0) rs (zFill rd 0) lp ik kp km kn ln rz it) by
    rw [zFill_0] at L; exact L
  refine z_up0 (n := 21) (P := fun i : Nat => G 7 [(0, .inr (.inr 0)), (1, .inl (i : Int))] [] (wMo w ks ss n la su nm np ns sz tp tn (0) rs (zFill rd i) lp ik kp km kn ln rz it)) ?_ (fun i hi ih => ?_)
  · have hz : ∀ j : Nat, j < 21 → zFill rd 21 j = 0 := fun j hj => by unfold zFill; rw [if_pos (by omega)]
    have key : ∀ d k : Nat, k + d = 8 → ∀ (q : Nat) (w1 r1 : Int → Int) (l : zL), 1 ≤ d → q ≤ tn → zAgW r1 w1 → (∀ j : Nat, j < 21 → 0 ≤ w1 j ∧ w1 j ≤ 99) → zMeal tp tn d w1 q = zMeal tp tn 8 W 0 → G 28 ([(0, .inr (.inr 0)), (1, .inl (k : Int))] ++ l) [] (wMo w ks ss n la su nm np ns sz tp tn (q) rs (r1) lp ik kp km kn ln rz it) := by
      intro d
      induction d with
      | zero => intro k hk q w1 r1 l h1; omega
      | succ d ih =>
        intro k hk q w1 r1 l _ hq hA1 hw1 he
        refine hG.2.2.2.2.1 (fun q hq => List.mem_append_left _ hq) ?_
        have he' : (match zDish tp tn w1 q with
          | .inl f => .inl f
          | .inr r => if ¬ zSk tp tn r.2 < tn then .inr r.1 else if tp (zSk tp tn r.2) = 44 ∧ d ≠ 0 then zMeal tp tn d r.1 (zSk tp tn r.2 + 1) else .inl (zSk tp tn r.2)) = zMeal tp tn 8 W 0 := he
        have hdi := zDish_in (b := tp) hq hw1
        refine hG.1 [28] 80 _ _ _ _ ?_
        refine ⟨by omega, fun q1 => absurd q1 (by omega), fun q1 => ?_⟩
        refine hG.2.1 (c_Mo_readCourse (pl := q) (rd := r1) (W := w1) hA1 hw1 ht hq hb) yv_Mo_readCourse lk_Mo_113 (by decide +kernel) rfl rfl [0, 1, 2, 3, 4, 5, 6, 7, 8, 9, 10, 11, 12, 13, 14] (by decide +kernel) rfl rfl rfl (Nat.le_of_ble_eq_true rfl) (fun v w2 hv hl2 => ?_)
        rcases hv with ⟨f, hf, rfl, r2, rfl⟩ | ⟨r, hr, rfl, r2, hA2, rfl⟩
        · change G _ _ _ (wMo w ks ss n la su nm np ns sz tp tn (f) rs (r2) lp ik kp km kn ln rz it)
          rw [hf] at he' hdi
          refine hG.1 [] 80 _ _ _ _ ?_
          refine ⟨by omega, fun q2 => absurd rfl q2, fun q2 => ?_⟩
          exact ⟨Or.inl rfl, Or.inl ⟨f, he'.symm, hdi, rfl, r2, rfl⟩⟩
        · change G _ _ _ (wMo w ks ss n la su nm np ns sz tp tn (r.2) rs (r2) lp ik kp km kn ln rz it)
          rw [hr] at he' hdi
          dsimp only at he' hdi
          have hs := zSk_in (b := tp) hdi.1
          have hX := zNx_in hb (zSk tp tn r.2)
          have hx1 : zNx tp tn (zSk tp tn r.2) = if zSk tp tn r.2 < tn then tp (zSk tp tn r.2) else -1 := rfl
          refine hG.1 [28] 80 _ _ _ _ ?_
          refine ⟨by omega, fun q2 => ?_, fun q2 => absurd q2 (by omega)⟩
          refine hG.2.1 (c_Mo_nextByte (pl := r.2) (rd := r2) ht hdi.1 hb) yv_Mo_nextByte lk_Mo_102 (by decide +kernel) rfl rfl [0, 1, 2, 3, 4, 5, 6, 7, 8, 9, 10, 11, 12, 13, 14] (by decide +kernel) rfl rfl rfl (Nat.le_of_ble_eq_true rfl) (fun v w2 hv hl2 => ?_)
          obtain ⟨rfl, rfl⟩ := hv
          change G _ _ _ (wMo w ks ss n la su nm np ns sz tp tn (zSk tp tn r.2) rs (r2) lp ik kp km kn ln rz it)
          refine hG.1 [28] 80 _ _ _ _ ?_
          refine ⟨by omega, fun q3 => ?_, fun q3 => ?_⟩
          · have hlt : zSk tp tn r.2 < tn := Classical.byContradiction fun z => by
              rw [if_neg z] at hx1; omega
            rw [if_pos hlt] at hx1
            rw [if_neg (fun z => z hlt)] at he'
            refine ⟨by omega, fun q4 => ?_, fun q4 => ?_⟩
            · rw [if_neg (fun z => q4 (hx1.trans z.1))] at he'
              exact ⟨Or.inl rfl, Or.inl ⟨_, he'.symm, ⟨hs.2, zSk_id hdi.1⟩, rfl, r2, rfl⟩⟩
            · refine ⟨by omega, fun q5 => ?_, fun q5 => ?_⟩
              · rw [if_pos ⟨hx1.symm.trans q4, by omega⟩] at he'
                exact ih (k + 1) (by omega) (zSk tp tn r.2 + 1) _ _ _ (by omega) (by omega) hA2 hdi.2 he'
              · rw [if_neg (fun z => z.2 (by omega))] at he'
                exact ⟨Or.inl rfl, Or.inl ⟨_, he'.symm, ⟨hs.2, zSk_id hdi.1⟩, rfl, r2, rfl⟩⟩
          · have hge : ¬ zSk tp tn r.2 < tn := fun z => by
              rw [if_pos z] at hx1
              have := hb _ z
              omega
            rw [if_pos hge] at he'
            exact ⟨Or.inr rfl, Or.inr ⟨_, he'.symm, rfl, r2, _, hA2, rfl⟩⟩
    refine hG.1 [28] 80 _ _ _ _ ?_
    refine ⟨by omega, fun q1 => ?_, fun q1 => absurd q1 (by omega)⟩
    exact key 8 0 rfl 0 W (zFill rd 21) [] (by omega) (Nat.zero_le _) (fun j hj => by rw [hz j hj, hW j hj]) (fun j hj => by rw [hW j hj]; omega) rfl
  · refine hG.1 [7] 80 _ _ _ _ ?_
    refine ⟨by omega, fun q1 => absurd q1 (by omega), fun q1 => ?_⟩
    rw [← zFill_put] at ih
    exact ⟨by omega, ih⟩
theorem c_Mo_supper {W : Int → Int} (hW : ∀ j : Nat, j < 21 → W j = 0) (ht : tn ≤ 80) (hb : ∀ j : Nat, j < tn → 32 ≤ tp j ∧ tp j ≤ 126) :
    zMet m_Mo_supper [.inr (.inr 0)] (wMo w ks ss n la su nm np ns sz tp tn pl rs rd lp ik kp km kn ln rz it) (fun v wd =>
      (∃ f : Nat, zMeal tp tn 8 W 0 = .inl f ∧ v = some (.inl (-20 - (f : Int))) ∧ ∃ (r2 : Int → Int) (p2 : Nat), wd = wMo w ks ss n la su nm np ns sz tp (0) (p2) rs (r2) lp ik kp km kn ln rz it) ∨
      (∃ r, zMeal tp tn 8 W 0 = .inr r ∧ ∃ (r2 : Int → Int) (p2 : Nat), zAgW r2 r ∧ v = some (.inl (zSumN (zMx r2 w 21) 21)) ∧ wd = wMo (zMx r2 w 21) ks ss n la su nm np ns sz tp (0) (p2) rs (r2) lp ik kp km kn ln rz it)) := by
  refine zMet.of (own := RX7) rfl (by decide +kernel) tk_Mo_supper fok_Mo cok_Mo (Nat.le_of_ble_eq_true rfl) (fun G hG => ?_)
  refine hG.1 [] 80 _ _ _ _ ?_
  refine hG.2.1 (c_Mo_readSupper (W := W) hW ht hb) yv_Mo_readSupper lk_Mo_117 (by decide +kernel) rfl rfl [0, 1, 2, 3, 4, 5, 6, 7, 8, 9, 10, 11, 12, 13, 14] (by decide +kernel) rfl rfl rfl (Nat.le_of_ble_eq_true rfl) (fun v w2 hv hl2 => ?_)
  rcases hv with ⟨f, hf, hf2, rfl, r2, rfl⟩ | ⟨r, hr, rfl, r2, p2, hA, rfl⟩
  · change G _ _ _ (wMo w ks ss n la su nm np ns sz tp tn (f) rs (r2) lp ik kp km kn ln rz it)
    refine hG.1 [] 80 _ _ _ _ ?_
    refine ⟨by omega, fun q => absurd rfl q, fun q => ?_⟩
    refine hG.2.1 (c_Mo_nextByte (pl := f) (rd := r2) ht hf2.1 hb) yv_Mo_nextByte lk_Mo_102 (by decide +kernel) rfl rfl [0, 1, 2, 3, 4, 5, 6, 7, 8, 9, 10, 11, 12, 13, 14] (by decide +kernel) rfl rfl rfl (Nat.le_of_ble_eq_true rfl) (fun v w2 hv hl2 => ?_)
    obtain ⟨rfl, rfl⟩ := hv
    change G _ _ _ (wMo w ks ss n la su nm np ns sz tp tn (zSk tp tn f) rs (r2) lp ik kp km kn ln rz it)
    rw [hf2.2]
    refine hG.1 [] 80 _ _ _ _ ?_
    refine ⟨by omega, fun q2 => absurd rfl q2, fun q2 => ?_⟩
    exact ⟨trivial, Or.inl ⟨f, hf, rfl, r2, f, rfl⟩⟩
  · change G _ _ _ (wMo w ks ss n la su nm np ns sz tp tn (p2) rs (r2) lp ik kp km kn ln rz it)
    refine hG.1 [33] 80 _ _ _ _ ?_
    refine ⟨by omega, fun q => ?_, fun q => absurd q (by omega)⟩
    refine ⟨by omega, fun q => ?_, fun q => absurd q (by omega)⟩
    suffices L : G 33 [(0, .inr (.inr 0)), (1, .inl 1), (2, .inl ((0 : Nat) : Int))] [] (wMo (zMx r2 w 0) ks ss n la su nm np ns sz tp (0) (p2) rs (r2) lp ik kp km kn ln rz it) by
      rw [zMx_0] at L; exact L
    refine z_up0 (n := 21) (P := fun i : Nat => G 33 [(0, .inr (.inr 0)), (1, .inl 1), (2, .inl (i : Int))] [] (wMo (zMx r2 w i) ks ss n la su nm np ns sz tp (0) (p2) rs (r2) lp ik kp km kn ln rz it)) ?_ (fun i hi ih => ?_)
    · refine hG.1 [] 80 _ _ _ _ ?_
      refine ⟨by omega, fun q1 => ?_, fun q1 => absurd q1 (by omega)⟩
      refine hG.2.1 (c_Mo_allWeights (w := zMx r2 w 21)) yv_Mo_allWeights lk_Mo_79 (by decide +kernel) rfl rfl [0, 1, 2, 3, 4, 5, 6, 7, 8, 9, 10, 11, 12, 13, 14] (by decide +kernel) rfl rfl rfl (Nat.le_of_ble_eq_true rfl) (fun v w2 hv hl2 => ?_)
      obtain ⟨rfl, rfl⟩ := hv
      change G _ _ _ (wMo (zMx r2 w 21) ks ss n la su nm np ns sz tp (0) (p2) rs (r2) lp ik kp km kn ln rz it)
      refine hG.1 [] 80 _ _ _ _ ?_
      exact ⟨trivial, Or.inr ⟨r, hr, r2, p2, hA, rfl, rfl⟩⟩
    · refine hG.1 [33] 80 _ _ _ _ ?_
      refine ⟨by omega, fun q1 => absurd q1 (by omega), fun q1 => ?_⟩
      rw [← zMx_put] at ih
      exact ⟨by omega, by omega, ih⟩
theorem c_Mo_readGuest {k : Nat} (hk : k < 9) (ht : tn ≤ 80) (hp : pl ≤ tn) (hb : ∀ j : Nat, j < tn → 32 ≤ tp j ∧ tp j ≤ 126) :
    zMet m_Mo_readGuest [.inr (.inr 0), .inl (k : Int)] (wMo w ks ss n la su nm np ns sz tp tn pl rs rd lp ik kp km kn ln rz it) (fun v wd =>
      (∃ f, zGst tp tn pl = .inl f ∧ v = some (.inl 0) ∧ ∃ r2 : Int → Int, wd = wMo w ks ss n la su nm np ns sz tp tn (f) rs (r2) lp ik kp km kn ln rz it) ∨
      (∃ q, zGst tp tn pl = .inr q ∧ v = some (.inl 1) ∧ wd = wMo w ks ss n la su nm np ns sz tp tn (q.2.2) rs (z_u rd k (4 * q.2.1 + q.1)) lp ik kp km kn ln rz it)) := by
  have h0 := zSk_in (b := tp) hp
  have hX := zNx_in hb (zSk tp tn pl)
  have hK := zKind_in (zNx tp tn (zSk tp tn pl))
  have hlt : ¬ zKind (zNx tp tn (zSk tp tn pl)) < 0 → zSk tp tn pl < tn := zKind_lt
  have hd : zGst tp tn pl = if zKind (zNx tp tn (zSk tp tn pl)) < 0 then .inl (zSk tp tn pl)
    else if zKind (zNx tp tn (zSk tp tn pl)) ≠ 2 ∧ 48 ≤ zNx tp tn (zSk tp tn (zSk tp tn pl + 1)) ∧ zNx tp tn (zSk tp tn (zSk tp tn pl + 1)) ≤ 57 then
      (if zBadNum tp tn (zSk tp tn (zSk tp tn pl + 1)) 0 20 then .inl (zSk tp tn (zSk tp tn pl + 1)) else .inr (zKind (zNx tp tn (zSk tp tn pl)), (zNum tp tn (zSk tp tn (zSk tp tn pl + 1)), zDg tp tn (zSk tp tn (zSk tp tn pl + 1)))))
    else .inr (zKind (zNx tp tn (zSk tp tn pl)), (0, if zKind (zNx tp tn (zSk tp tn pl)) ≠ 2 then zSk tp tn (zSk tp tn pl + 1) else zSk tp tn pl + 1)) := rfl
  generalize hD : zGst tp tn pl = R at hd ⊢
  generalize hq0 : zSk tp tn pl = q0 at h0 hX hK hlt hd
  generalize hc0 : zNx tp tn q0 = c at hX hK hlt hd
  refine zMet.of (own := RX7) rfl (by decide +kernel) tk_Mo_readGuest fok_Mo cok_Mo (Nat.le_of_ble_eq_true rfl) (fun G hG => ?_)
  refine hG.1 [] 80 _ _ _ _ ?_
  refine hG.2.1 (c_Mo_nextByte ht hp hb) yv_Mo_nextByte lk_Mo_102 (by decide +kernel) rfl rfl [0, 1, 2, 3, 4, 5, 6, 7, 8, 9, 10, 11, 12, 13, 14] (by decide +kernel) rfl rfl rfl (Nat.le_of_ble_eq_true rfl) (fun v w2 hv hl2 => ?_)
  obtain ⟨rfl, rfl⟩ := hv
  change G _ _ _ (wMo w ks ss n la su nm np ns sz tp tn (zSk tp tn pl) rs rd lp ik kp km kn ln rz it)
  rw [hq0, hc0]
  have tail : ∀ kd : Int, kd = zKind c → G 46 [(0, .inr (.inr 0)), (1, .inl (k : Int)), (2, .inl c)] [.inl kd] (wMo w ks ss n la su nm np ns sz tp tn (q0) rs rd lp ik kp km kn ln rz it) := by
    rintro kd rfl
    by_cases a1 : zKind c < 0
    · rw [if_pos a1] at hd
      refine hG.1 [] 80 _ _ _ _ ?_
      refine ⟨by omega, fun q => absurd q (by omega), fun q => ?_⟩
      exact ⟨Or.inl rfl, Or.inl ⟨q0, hd, rfl, rd, rfl⟩⟩
    · rw [if_neg a1] at hd
      have hl := hlt a1
      have h1 := zSk_in (b := tp) (show q0 + 1 ≤ tn by omega)
      have hX1 := zNx_in hb (zSk tp tn (q0 + 1))
      have fin : ∀ (q : Nat) (sl : Int), R = .inr (zKind c, (sl, q)) → (0 ≤ sl ∧ sl ≤ 20) → G 97 [(0, .inr (.inr 0)), (1, .inl (k : Int)), (2, .inl c), (3, .inl (zKind c)), (4, .inl sl)] [] (wMo w ks ss n la su nm np ns sz tp tn (q) rs rd lp ik kp km kn ln rz it) := by
        intro q sl hz hsl
        refine hG.1 [] 80 _ _ _ _ ?_
        refine ⟨by omega, ?_⟩
        refine ⟨by omega, fun q1 => absurd q1 (by omega), fun q1 => ?_⟩
        exact ⟨Or.inr rfl, Or.inr ⟨_, hz, rfl, rfl⟩⟩
      refine hG.1 [97] 80 _ _ _ _ ?_
      refine ⟨by omega, fun q => ?_, fun q => absurd q (by omega)⟩
      refine ⟨by omega, fun a2 => ?_, fun a2 => ?_⟩
      · rw [if_neg (fun z => z.1 a2), if_neg (fun z => z a2)] at hd
        exact fin (q0 + 1) 0 hd (by omega)
      · refine hG.2.1 (c_Mo_nextByte (pl := q0 + 1) ht (show q0 + 1 ≤ tn by omega) hb) yv_Mo_nextByte lk_Mo_102 (by decide +kernel) rfl rfl [0, 1, 2, 3, 4, 5, 6, 7, 8, 9, 10, 11, 12, 13, 14] (by decide +kernel) rfl rfl rfl (Nat.le_of_ble_eq_true rfl) (fun v w2 hv hl2 => ?_)
        obtain ⟨rfl, rfl⟩ := hv
        change G _ _ _ (wMo w ks ss n la su nm np ns sz tp tn (zSk tp tn (q0 + 1)) rs rd lp ik kp km kn ln rz it)
        refine hG.1 [] 80 _ _ _ _ ?_
        refine ⟨by omega, ?_⟩
        refine hG.2.2.1 (c_Mo_in (a := zNx tp tn (zSk tp tn (q0 + 1))) (b := 48) (c := 57) (by omega) (by omega) (by omega)) ys_Mo_in (Or.inl lk_Mo_55) (by decide +kernel) rfl [] (by decide +kernel) rfl rfl rfl (Nat.le_of_ble_eq_true rfl) (fun v w2 hv hl2 => ?_)
        obtain ⟨⟨hc, rfl⟩ | ⟨hc, rfl⟩, rfl⟩ := hv
        · change G _ _ _ (wMo w ks ss n la su nm np ns sz tp tn (zSk tp tn (q0 + 1)) rs rd lp ik kp km kn ln rz it)
          rw [if_pos ⟨a2, hc⟩] at hd
          refine hG.1 [] 80 _ _ _ _ ?_
          refine ⟨by omega, fun q3 => absurd q3 (by omega), fun q3 => ?_⟩
          refine hG.2.1 (c_Mo_readNumber (pl := zSk tp tn (q0 + 1)) (lo := 0) (hi := 20) ht h1.2 hb (by omega) (by omega)) yv_Mo_readNumber lk_Mo_109 (by decide +kernel) rfl rfl [0, 1, 2, 3, 4, 5, 6, 7, 8, 9, 10, 11, 12, 13, 14] (by decide +kernel) rfl rfl rfl (Nat.le_of_ble_eq_true rfl) (fun v w2 hv hl2 => ?_)
          rw [zSk_id (show q0 + 1 ≤ tn by omega)] at hv
          rcases hv with ⟨hbad, rfl, rfl⟩ | ⟨hgood, rfl, rfl⟩
          · change G _ _ _ (wMo w ks ss n la su nm np ns sz tp tn (zSk tp tn (q0 + 1)) rs rd lp ik kp km kn ln rz it)
            rw [if_pos hbad] at hd
            refine hG.1 [] 80 _ _ _ _ ?_
            refine ⟨by omega, ?_⟩
            refine ⟨by omega, fun q1 => ?_, fun q1 => absurd q1 (by omega)⟩
            exact ⟨Or.inl rfl, Or.inl ⟨_, hd, rfl, _, rfl⟩⟩
          · change G _ _ _ (wMo w ks ss n la su nm np ns sz tp tn (zDg tp tn (zSk tp tn (q0 + 1))) rs rd lp ik kp km kn ln rz it)
            rw [if_neg hgood] at hd
            have hg2 : ¬ (zNum tp tn (zSk tp tn (q0 + 1)) < 0 ∨ 20 < zNum tp tn (zSk tp tn (q0 + 1))) := fun z => hgood (Or.inr z)
            refine hG.1 [97] 80 _ _ _ _ ?_
            exact fin _ _ hd (by omega)
        · change G _ _ _ (wMo w ks ss n la su nm np ns sz tp tn (zSk tp tn (q0 + 1)) rs rd lp ik kp km kn ln rz it)
          rw [if_neg (fun z => hc z.2), if_pos a2] at hd
          refine hG.1 [97] 80 _ _ _ _ ?_
          refine ⟨by omega, fun q3 => ?_, fun q3 => absurd rfl q3⟩
          exact fin _ _ hd (by omega)
  refine hG.1 [46] 80 _ _ _ _ ?_
  refine ⟨by omega, fun k1 => ?_, fun k1 => ?_⟩
  · refine ⟨by omega, fun k2 => ?_, fun k2 => ?_⟩
    · refine ⟨by omega, fun k3 => ?_, fun k3 => ?_⟩
      · refine ⟨by omega, fun k4 => ?_, fun k4 => ?_⟩
        · exact tail _ (by rw [zKind, if_neg k2, if_neg k4, if_neg k3, if_neg k1])
        · exact tail _ (by rw [zKind, if_neg k2, if_pos k4])
      · exact tail _ (by rw [zKind, if_neg k2, if_neg (by omega), if_pos k3])
    · exact tail _ (by rw [zKind, if_pos k2])
  · exact tail _ (by rw [zKind, if_neg (by omega), if_neg (by omega), if_neg (by omega), if_pos k1])
def zOkG (m : Nat) (k1 s1 : Int → Int) : Prop := ∀ j : Nat, j < m → (0 ≤ k1 j ∧ k1 j ≤ 3) ∧ (0 ≤ s1 j ∧ s1 j ≤ 20)
def zRdG (m : Nat) (k1 s1 r1 : Int → Int) : Prop := ∀ j : Nat, j < m → r1 j = 4 * s1 j + k1 j
theorem c_Mo_readGuests {K S : Int → Int} (ht : tn ≤ 80) (hb : ∀ j : Nat, j < tn → 32 ≤ tp j ∧ tp j ≤ 126) :
    zMet m_Mo_readGuests [.inr (.inr 0)] (wMo w ks ss n la su nm np ns sz tp tn pl rs rd lp ik kp km kn ln rz it) (fun v wd =>
      (∃ f, zTab tp tn 9 K S 0 0 = .inl f ∧ (f ≤ tn ∧ zSk tp tn f = f) ∧ v = some (.inl 0) ∧ ∃ (r2 : Int → Int) (y : Int), wd = wMo w ks ss n la su nm np ns sz tp tn (f) (y) (r2) lp ik kp km kn ln rz it) ∨
      (∃ (k2 s2 : Int → Int) (m2 : Nat), zTab tp tn 9 K S 0 0 = .inr (k2, (s2, m2)) ∧ m2 ≤ 9 ∧ zOkG m2 k2 s2 ∧ v = some (.inl 1) ∧ ∃ (r2 : Int → Int) (p2 : Nat), zRdG m2 k2 s2 r2 ∧ wd = wMo w ks ss n la su nm np ns sz tp tn (p2) ((m2 : Int)) (r2) lp ik kp km kn ln rz it)) := by
  refine zMet.of (own := RX7) rfl (by decide +kernel) tk_Mo_readGuests fok_Mo cok_Mo (Nat.le_of_ble_eq_true rfl) (fun G hG => ?_)
  have key : ∀ d k : Nat, k + d = 9 → ∀ (q : Nat) (k1 s1 r1 : Int → Int) (y : Int) (l : zL), 1 ≤ d → q ≤ tn → zOkG k k1 s1 → zRdG k k1 s1 r1 → zTab tp tn d k1 s1 k q = zTab tp tn 9 K S 0 0 → G 7 ([(0, .inr (.inr 0)), (1, .inl (k : Int))] ++ l) [] (wMo w ks ss n la su nm np ns sz tp tn (q) (y) (r1) lp ik kp km kn ln rz it) := by
    intro d
    induction d with
    | zero => intro k hk q k1 s1 r1 y l h1; omega
    | succ d ih =>
      intro k hk q k1 s1 r1 y l _ hq hO hR he
      refine hG.2.2.2.2.1 (fun q hq => List.mem_append_left _ hq) ?_
      have he' : (match zGst tp tn q with
        | .inl f => .inl f
        | .inr r => if ¬ zSk tp tn r.2.2 < tn then .inr (z_u k1 k r.1, (z_u s1 k r.2.1, k + 1)) else if tp (zSk tp tn r.2.2) = 59 ∧ d ≠ 0 then zTab tp tn d (z_u k1 k r.1) (z_u s1 k r.2.1) (k + 1) (zSk tp tn r.2.2 + 1) else .inl (zSk tp tn r.2.2)) = zTab tp tn 9 K S 0 0 := he
      have hdi := zGst_in (b := tp) hq
      refine hG.1 [7] 80 _ _ _ _ ?_
      refine ⟨by omega, fun q1 => absurd q1 (by omega), fun q1 => ?_⟩
      refine hG.2.1 (c_Mo_readGuest (pl := q) (rs := y) (rd := r1) (k := k) (by omega) ht hq hb) yv_Mo_readGuest lk_Mo_120 (by decide +kernel) rfl rfl [0, 1, 2, 3, 4, 5, 6, 7, 8, 9, 10, 11, 12, 13, 14] (by decide +kernel) rfl rfl rfl (Nat.le_of_ble_eq_true rfl) (fun v w2 hv hl2 => ?_)
      rcases hv with ⟨f, hf, rfl, r2, rfl⟩ | ⟨r, hr, rfl, rfl⟩
      · change G _ _ _ (wMo w ks ss n la su nm np ns sz tp tn (f) (y) (r2) lp ik kp km kn ln rz it)
        rw [hf] at he' hdi
        refine hG.1 [] 80 _ _ _ _ ?_
        refine ⟨by omega, fun q2 => absurd rfl q2, fun q2 => ?_⟩
        exact ⟨Or.inl rfl, Or.inl ⟨f, he'.symm, hdi, rfl, r2, y, rfl⟩⟩
      · change G _ _ _ (wMo w ks ss n la su nm np ns sz tp tn (r.2.2) (y) (z_u r1 k (4 * r.2.1 + r.1)) lp ik kp km kn ln rz it)
        rw [hr] at he' hdi
        obtain ⟨hd1, hd2, hd3, _⟩ : r.2.2 ≤ tn ∧ (0 ≤ r.1 ∧ r.1 ≤ 3) ∧ (0 ≤ r.2.1 ∧ r.2.1 ≤ 20) ∧ (r.1 = 2 → r.2.1 = 0) := hdi
        dsimp only at he'
        have hs := zSk_in (b := tp) hd1
        have hX := zNx_in hb (zSk tp tn r.2.2)
        have hx1 : zNx tp tn (zSk tp tn r.2.2) = if zSk tp tn r.2.2 < tn then tp (zSk tp tn r.2.2) else -1 := rfl
        have hO2 : zOkG (k + 1) (z_u k1 k r.1) (z_u s1 k r.2.1) := fun j hj => by
          unfold z_u
          by_cases e : (j : Int) = (k : Int)
          · rw [if_pos e, if_pos e]; exact ⟨hd2, hd3⟩
          · rw [if_neg e, if_neg e]; exact hO j (by omega)
        have hR2 : zRdG (k + 1) (z_u k1 k r.1) (z_u s1 k r.2.1) (z_u r1 k (4 * r.2.1 + r.1)) := fun j hj => by
          unfold z_u
          by_cases e : (j : Int) = (k : Int)
          · rw [if_pos e, if_pos e, if_pos e]
          · rw [if_neg e, if_neg e, if_neg e]; exact hR j (by omega)
        refine hG.1 [7] 80 _ _ _ _ ?_
        refine ⟨by omega, fun q2 => ?_, fun q2 => absurd q2 (by omega)⟩
        refine hG.2.1 (c_Mo_nextByte (pl := r.2.2) (rs := (k : Int) + 1) (rd := z_u r1 k (4 * r.2.1 + r.1)) ht hd1 hb) yv_Mo_nextByte lk_Mo_102 (by decide +kernel) rfl rfl [0, 1, 2, 3, 4, 5, 6, 7, 8, 9, 10, 11, 12, 13, 14] (by decide +kernel) rfl rfl rfl (Nat.le_of_ble_eq_true rfl) (fun v w2 hv hl2 => ?_)
        obtain ⟨rfl, rfl⟩ := hv
        change G _ _ _ (wMo w ks ss n la su nm np ns sz tp tn (zSk tp tn r.2.2) ((k : Int) + 1) (z_u r1 k (4 * r.2.1 + r.1)) lp ik kp km kn ln rz it)
        refine hG.1 [7] 80 _ _ _ _ ?_
        refine ⟨by omega, fun q3 => ?_, fun q3 => ?_⟩
        · have hlt : zSk tp tn r.2.2 < tn := Classical.byContradiction fun z => by
            rw [if_neg z] at hx1; omega
          rw [if_pos hlt] at hx1
          rw [if_neg (fun z => z hlt)] at he'
          refine ⟨by omega, fun q4 => ?_, fun q4 => ?_⟩
          · rw [if_neg (fun z => q4 (hx1.trans z.1))] at he'
            exact ⟨Or.inl rfl, Or.inl ⟨_, he'.symm, ⟨hs.2, zSk_id hd1⟩, rfl, _, _, rfl⟩⟩
          · refine ⟨by omega, fun q5 => ?_, fun q5 => ?_⟩
            · rw [if_pos ⟨hx1.symm.trans q4, by omega⟩] at he'
              exact ih (k + 1) (by omega) (zSk tp tn r.2.2 + 1) _ _ _ _ _ (by omega) (by omega) hO2 hR2 he'
            · rw [if_neg (fun z => z.2 (by omega))] at he'
              exact ⟨Or.inl rfl, Or.inl ⟨_, he'.symm, ⟨hs.2, zSk_id hd1⟩, rfl, _, _, rfl⟩⟩
        · have hge : ¬ zSk tp tn r.2.2 < tn := fun z => by
            rw [if_pos z] at hx1
            have := hb _ z
            omega
          rw [if_pos hge] at he'
          exact ⟨Or.inr rfl, Or.inr ⟨_, _, k + 1, he'.symm, by omega, hO2, rfl, _, _, hR2, rfl⟩⟩
  refine hG.1 [7] 80 _ _ _ _ ?_
  exact key 9 0 rfl 0 K S rd rs [] (by omega) (Nat.zero_le _) (fun j hj => absurd hj (Nat.not_lt_zero _)) (fun j hj => absurd hj (Nat.not_lt_zero _)) rfl
theorem c_Mo_guests {K S : Int → Int} (ht : tn ≤ 80) (hb : ∀ j : Nat, j < tn → 32 ≤ tp j ∧ tp j ≤ 126) :
    zMet m_Mo_guests [.inr (.inr 0)] (wMo w ks ss n la su nm np ns sz tp tn pl rs rd lp ik kp km kn ln rz it) (fun v wd =>
      (∃ f : Nat, zTab tp tn 9 K S 0 0 = .inl f ∧ v = some (.inl (-20 - (f : Int))) ∧ ∃ (r2 : Int → Int) (p2 : Nat) (y : Int), wd = wMo w ks ss n la su nm np ns sz tp (0) (p2) (y) (r2) lp ik kp km kn ln rz it) ∨
      (∃ (k2 s2 : Int → Int) (m2 : Nat), zTab tp tn 9 K S 0 0 = .inr (k2, (s2, m2)) ∧ m2 ≤ 9 ∧ zOkG m2 k2 s2 ∧ v = some (.inl (m2 : Int)) ∧ ∃ (r2 : Int → Int) (p2 : Nat), wd = wMo w (zMx k2 ks m2) (zMx s2 ss m2) (m2) la su nm np ns (0) tp (0) (p2) ((m2 : Int)) (r2) lp ik kp km kn ln rz it)) := by
  refine zMet.of (own := RX7) rfl (by decide +kernel) tk_Mo_guests fok_Mo cok_Mo (Nat.le_of_ble_eq_true rfl) (fun G hG => ?_)
  refine hG.1 [] 80 _ _ _ _ ?_
  refine hG.2.1 (c_Mo_readGuests (K := K) (S := S) ht hb) yv_Mo_readGuests lk_Mo_126 (by decide +kernel) rfl rfl [0, 1, 2, 3, 4, 5, 6, 7, 8, 9, 10, 11, 12, 13, 14] (by decide +kernel) rfl rfl rfl (Nat.le_of_ble_eq_true rfl) (fun v w2 hv hl2 => ?_)
  rcases hv with ⟨f, hf, hf2, rfl, r2, y, rfl⟩ | ⟨k2, s2, m2, hr, hm, hO, rfl, r2, p2, hR, rfl⟩
  · change G _ _ _ (wMo w ks ss n la su nm np ns sz tp tn (f) (y) (r2) lp ik kp km kn ln rz it)
    refine hG.1 [] 80 _ _ _ _ ?_
    refine ⟨by omega, fun q => absurd rfl q, fun q => ?_⟩
    refine hG.2.1 (c_Mo_nextByte (pl := f) (rs := y) (rd := r2) ht hf2.1 hb) yv_Mo_nextByte lk_Mo_102 (by decide +kernel) rfl rfl [0, 1, 2, 3, 4, 5, 6, 7, 8, 9, 10, 11, 12, 13, 14] (by decide +kernel) rfl rfl rfl (Nat.le_of_ble_eq_true rfl) (fun v w2 hv hl2 => ?_)
    obtain ⟨rfl, rfl⟩ := hv
    change G _ _ _ (wMo w ks ss n la su nm np ns sz tp tn (zSk tp tn f) (y) (r2) lp ik kp km kn ln rz it)
    rw [hf2.2]
    refine hG.1 [] 80 _ _ _ _ ?_
    refine ⟨by omega, fun q2 => absurd rfl q2, fun q2 => ?_⟩
    exact ⟨trivial, Or.inl ⟨f, hf, rfl, r2, f, y, rfl⟩⟩
  · change G _ _ _ (wMo w ks ss n la su nm np ns sz tp tn (p2) ((m2 : Int)) (r2) lp ik kp km kn ln rz it)
    refine hG.1 [43] 80 _ _ _ _ ?_
    refine ⟨by omega, fun q => ?_, fun q => absurd q (by omega)⟩
    refine ⟨by omega, fun q => ?_, fun q => absurd q (by omega)⟩
    suffices L : G 43 [(0, .inr (.inr 0)), (1, .inl 1), (2, .inl ((0 : Nat) : Int))] [] (wMo w (zMx k2 ks 0) (zMx s2 ss 0) (0) la su nm np ns (0) tp (0) (p2) ((m2 : Int)) (r2) lp ik kp km kn ln rz it) by
      rw [zMx_0, zMx_0] at L; exact L
    refine z_up0 (n := m2) (P := fun i : Nat => G 43 [(0, .inr (.inr 0)), (1, .inl 1), (2, .inl (i : Int))] [] (wMo w (zMx k2 ks i) (zMx s2 ss i) (i) la su nm np ns (0) tp (0) (p2) ((m2 : Int)) (r2) lp ik kp km kn ln rz it)) ?_ (fun i hi ih => ?_)
    · refine hG.1 [] 80 _ _ _ _ ?_
      refine ⟨by omega, fun q1 => ?_, fun q1 => absurd q1 (by omega)⟩
      exact ⟨trivial, Or.inr ⟨k2, s2, m2, hr, hm, hO, rfl, r2, p2, rfl⟩⟩
    · have hRi := hR i hi
      have hOi := hO i hi
      refine hG.1 [43] 80 _ _ _ _ ?_
      refine ⟨by omega, fun q1 => absurd q1 (by omega), fun q1 => ?_⟩
      refine ⟨by omega, by omega, by omega, by omega, ?_⟩
      refine hG.2.1 (c_Mo_add (ks := zMx k2 ks i) (ss := zMx s2 ss i) (n := i) (x := r2 i % 4) (y := r2 i / 4) (by omega)) yv_Mo_add lk_Mo_71 (by decide +kernel) rfl rfl [0, 1, 2, 3, 4, 5, 6, 7, 8, 9, 10, 11, 12, 13, 14] (by decide +kernel) rfl rfl rfl (Nat.le_of_ble_eq_true rfl) (fun v w2 hv hl2 => ?_)
      obtain ⟨rfl, rfl⟩ := hv
      change G _ _ _ (wMo w (z_u (zMx k2 ks i) i (r2 i % 4)) (z_u (zMx s2 ss i) i (r2 i / 4)) (i + 1) la su nm np ns (0) tp (0) (p2) ((m2 : Int)) (r2) lp ik kp km kn ln rz it)
      have e1 : r2 i % 4 = k2 i := by omega
      have e2 : r2 i / 4 = s2 i := by omega
      rw [e1, e2, zMx_put, zMx_put]
      refine hG.1 [43] 80 _ _ _ _ ?_
      exact ih
end M17
