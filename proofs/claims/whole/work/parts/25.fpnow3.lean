/-! FARTHESTPAYS: three guests, the host, nights -/
abbrev z3 (n : Nat) (a b c : Int) : Prop := (0 ≤ a ∧ a < n) ∧ (0 ≤ b ∧ b < n) ∧ (0 ≤ c ∧ c < n) ∧ a ≠ b ∧ a ≠ c ∧ b ≠ c
section Fo
variable {img : Int} {w ks ss : Int → Int} {n : Nat} {who ties : Int} {su : Int → Int} {cs : Nat → zCD} {sz : Nat} {tl : zW}
theorem c_Fp_areThree {a b c : Int} (ha : -2147483648 ≤ a ∧ a ≤ 2147483647) (hb : -2147483648 ≤ b ∧ b ≤ 2147483647) (hc : -2147483648 ≤ c ∧ c ≤ 2147483647) (hn : n ≤ 9) :
    zMet m_Fp_areThree [.inr (.inr 0), .inl a, .inl b, .inl c] (wFp img w ks ss n who ties su cs sz tl) (fun v wd => z_bool (z3 n a b c) v ∧ wd = wFp img w ks ss n who ties su cs sz tl) := by
  refine zMet.of (own := RX6) rfl (by decide +kernel) tk_Fp_areThree fok_Fp cok_Fp (Nat.le_of_ble_eq_true rfl) (fun G hG => ?_)
  refine hG.1 [] 80 _ _ _ _ ?_
  refine hG.2.1 (c_Co_has ha hn) yv_Co_has lk_Fp_76 (by decide +kernel) rfl rfl [4, 5, 6] (by decide +kernel) rfl rfl rfl (Nat.le_of_ble_eq_true rfl) (fun v w2 hv hl2 => ?_)
  obtain ⟨⟨h1, rfl⟩ | ⟨h1, rfl⟩, rfl⟩ := hv
  · change G _ _ _ (wFp img w ks ss n who ties su cs sz tl)
    refine hG.1 [] 80 _ _ _ _ ?_
    refine ⟨by omega, fun q => absurd q (by omega), fun q => ?_⟩
    refine hG.2.1 (c_Co_has hb hn) yv_Co_has lk_Fp_76 (by decide +kernel) rfl rfl [4, 5, 6] (by decide +kernel) rfl rfl rfl (Nat.le_of_ble_eq_true rfl) (fun v w2 hv hl2 => ?_)
    obtain ⟨⟨h2, rfl⟩ | ⟨h2, rfl⟩, rfl⟩ := hv
    · change G _ _ _ (wFp img w ks ss n who ties su cs sz tl)
      refine hG.1 [] 80 _ _ _ _ ?_
      refine ⟨by omega, fun q => absurd q (by omega), fun q => ?_⟩
      refine hG.2.1 (c_Co_has hc hn) yv_Co_has lk_Fp_76 (by decide +kernel) rfl rfl [4, 5, 6] (by decide +kernel) rfl rfl rfl (Nat.le_of_ble_eq_true rfl) (fun v w2 hv hl2 => ?_)
      obtain ⟨⟨h3, rfl⟩ | ⟨h3, rfl⟩, rfl⟩ := hv
      · change G _ _ _ (wFp img w ks ss n who ties su cs sz tl)
        refine hG.1 [] 80 _ _ _ _ ?_
        refine ⟨by omega, fun q => absurd q (by omega), fun q => ?_⟩
        refine ⟨by omega, fun q1 => ?_, fun q1 => ?_⟩
        · exact ⟨Or.inl rfl, Or.inr ⟨fun z => z.2.2.2.1 q1, rfl⟩, rfl⟩
        · refine ⟨by omega, fun q2 => ?_, fun q2 => ?_⟩
          · exact ⟨Or.inl rfl, Or.inr ⟨fun z => z.2.2.2.2.1 q2, rfl⟩, rfl⟩
          · refine ⟨by omega, fun q3 => ?_, fun q3 => ?_⟩
            · exact ⟨Or.inl rfl, Or.inr ⟨fun z => z.2.2.2.2.2 q3, rfl⟩, rfl⟩
            · exact ⟨Or.inr rfl, Or.inl ⟨⟨h1, h2, h3, q1, q2, q3⟩, rfl⟩, rfl⟩
      · change G _ _ _ (wFp img w ks ss n who ties su cs sz tl)
        refine hG.1 [] 80 _ _ _ _ ?_
        refine ⟨by omega, fun q => ?_, fun q => absurd rfl q⟩
        exact ⟨Or.inl rfl, Or.inr ⟨fun z => h3 z.2.2.1, rfl⟩, rfl⟩
    · change G _ _ _ (wFp img w ks ss n who ties su cs sz tl)
      refine hG.1 [] 80 _ _ _ _ ?_
      refine ⟨by omega, fun q => ?_, fun q => absurd rfl q⟩
      exact ⟨Or.inl rfl, Or.inr ⟨fun z => h2 z.2.1, rfl⟩, rfl⟩
  · change G _ _ _ (wFp img w ks ss n who ties su cs sz tl)
    refine hG.1 [] 80 _ _ _ _ ?_
    refine ⟨by omega, fun q => ?_, fun q => absurd rfl q⟩
    exact ⟨Or.inl rfl, Or.inr ⟨fun z => h1 z.1, rfl⟩, rfl⟩
theorem wFp_app : wFp img w ks ss n who ties su cs sz [] ++ tl = wFp img w ks ss n who ties su cs sz tl := by
  unfold wFp
  simp only [List.append_nil, List.cons_append, List.append_assoc]
theorem fa_pick : (List.range' 0 46).map (z_g (wFp img w ks ss n who ties su cs sz tl)) = (wFp img w ks ss n who ties su cs sz []).map (fun c => some (z_ren (List.range' 0 46) c)) := by
  have h := z_emb (fun c => c) tl (wFp img w ks ss n who ties su cs sz []) []
  rw [List.map_id', List.nil_append, wFp_app] at h
  have e : (fun c => some (z_ren (List.range' 0 46) c)) = (fun c : zC => some c) := funext fun c => by rw [z_ren_id 45]
  rw [e]
  exact h
theorem fa_back : z_sct (List.range' 0 46) (List.range' 0 46) (wFp img w ks ss n who ties su cs sz []) (wFp img w ks ss n who ties su cs sz tl) = wFp img w ks ss n who ties su cs sz tl := by
  have h := z_embb (List.range' 0 46) tl (wFp img w ks ss n who ties su cs sz []) (wFp img w ks ss n who ties su cs sz []) [] rfl
  have e : (wFp img w ks ss n who ties su cs sz []).map (z_ren (List.range' 0 46)) = wFp img w ks ss n who ties su cs sz [] := by
    rw [List.map_congr_left (fun c _ => z_ren_id 45 c), List.map_id']
  rw [e, List.nil_append, wFp_app] at h
  exact h
noncomputable def zPr (w ss : Int → Int) (n : Nat) (who ties : Int) (a b c : Nat) : Nat := (zHp (zFp w ss n who ties a b c) (2520 * zWeiN w 21) 441 0 0 (-1)).1
theorem c_Fp_league {a b c x : Int} (ha : -2147483648 ≤ a ∧ a ≤ 2147483647) (hb : -2147483648 ≤ b ∧ b ≤ 2147483647) (hc : -2147483648 ≤ c ∧ c ≤ 2147483647) (hx : -2147483648 ≤ x ∧ x ≤ 2147483647) (hL : zOkL n who ties) (hS : zOkS ss n) (hW : zOkW w) :
    zMet m_Fp_league [.inr (.inr 0), .inl a, .inl b, .inl c, .inl x] (wFp img w ks ss n who ties su cs sz tl) (fun v wd => v = some (.inl (if z3 n a b c ∧ (0 ≤ x ∧ x ≤ 1) then (if zSumN w 21 = 0 then -2 else if x = 0 then (zPr w ss n who ties a.toNat b.toNat c.toNat : Int) / 21 else (zPr w ss n who ties a.toNat b.toNat c.toNat : Int) % 21) else -1)) ∧ wd = wFp img w ks ss n who ties su cs sz tl) := by
  have hn := hL.1
  have hsum := zSumN_in hW
  have hwei := zWei21 hW
  refine zMet.of (own := RX6) rfl (by decide +kernel) tk_Fp_league fok_Fp cok_Fp (Nat.le_of_ble_eq_true rfl) (fun G hG => ?_)
  refine hG.1 [] 80 _ _ _ _ ?_
  refine hG.2.1 (c_Fp_areThree (img := img) (w := w) (ks := ks) (ss := ss) (n := n) (who := who) (ties := ties) (su := su) (cs := cs) (sz := sz) (tl := []) ha hb hc hn) yv_Fp_areThree lk_Fp_182 (by decide +kernel) rfl rfl (List.range' 0 46) (by decide +kernel) fa_pick rfl rfl (Nat.le_of_ble_eq_true rfl) (fun v w2 hv hl2 => ?_)
  rw [hv.2, fa_back]
  have hv := hv.1
  rcases hv with ⟨h1, rfl⟩ | ⟨h1, rfl⟩
  · refine hG.1 [23] 80 _ _ _ _ ?_
    refine ⟨by omega, fun q => absurd q (by omega), fun q => ?_⟩
    refine ⟨by omega, fun q2 => ?_, fun q2 => ?_⟩
    · exact ⟨trivial, by rw [if_neg (fun z => by have := z.2; omega)], rfl⟩
    · refine ⟨by omega, fun q3 => ?_, fun q3 => ?_⟩
      · refine hG.1 [] 80 _ _ _ _ ?_
        refine hG.2.1 (c_Su_together (w := w)) yv_Su_together lk_Fp_88 (by decide +kernel) rfl rfl [2, 3] (by decide +kernel) rfl rfl rfl (Nat.le_of_ble_eq_true rfl) (fun v w2 hv hl2 => ?_)
        obtain ⟨rfl, rfl⟩ := hv
        change G _ _ _ (wFp img w ks ss n who ties su cs sz tl)
        refine hG.1 [] 80 _ _ _ _ ?_
        refine ⟨by omega, fun h4 => ?_, fun h4 => ?_⟩
        · obtain ⟨i, rfl⟩ := z_nat h1.1.1
          obtain ⟨j, rfl⟩ := z_nat h1.2.1.1
          obtain ⟨k, rfl⟩ := z_nat h1.2.2.1.1
          have hij : i ≠ j := fun e => h1.2.2.2.1 (by rw [e])
          refine hG.2.1 (c_Ta_wholeBurden (w := w) (ks := ks) (ss := ss) (n := n) (who := who) (ties := ties) hW) yv_Ta_wholeBurden lk_Fp_186 (by decide +kernel) rfl rfl [1, 2, 3, 4, 5, 6] (by decide +kernel) rfl rfl rfl (Nat.le_of_ble_eq_true rfl) (fun v w2 hv hl2 => ?_)
          obtain ⟨rfl, rfl⟩ := hv
          change G _ _ _ (wFp img w ks ss n who ties su cs sz tl)
          refine hG.1 [] 80 _ _ _ _ ?_
          refine hG.2.1 (c_Ta_hardestPair (w := w) (ks := ks) (ss := ss) (n := n) (who := who) (ties := ties) (a := i) (b := j) (c := k) (en := 2520 * zWeiN w 21) (by omega) (by omega) (by omega) hL hS hW hij (by omega)) yv_Ta_hardestPair lk_Fp_190 (by decide +kernel) rfl rfl [1, 2, 3, 4, 5, 6] (by decide +kernel) rfl rfl rfl (Nat.le_of_ble_eq_true rfl) (fun v w2 hv hl2 => ?_)
          obtain ⟨rfl, rfl⟩ := hv
          change G _ _ _ (wFp img w ks ss n who ties su cs sz tl)
          have hlt : (zHp (zFp w ss n who ties i j k) (2520 * zWeiN w 21) 441 0 0 (-1)).1 < 441 := zHp_lt 441 0 0 (-1) rfl (by omega)
          refine hG.1 [] 80 _ _ _ _ ?_
          refine ⟨by omega, fun h5 => ?_, fun h5 => ?_⟩
          · refine ⟨by omega, trivial, ?_, rfl⟩
            rw [if_pos ⟨h1, by omega⟩, if_neg h4, if_neg h5, Int.toNat_natCast, Int.toNat_natCast, Int.toNat_natCast] <;> rfl
          · refine ⟨by omega, trivial, ?_, rfl⟩
            rw [if_pos ⟨h1, by omega⟩, if_neg h4, if_pos h5, Int.toNat_natCast, Int.toNat_natCast, Int.toNat_natCast] <;> rfl
        · exact ⟨trivial, by rw [if_pos ⟨h1, by omega⟩, if_pos h4], rfl⟩
      · exact ⟨trivial, by rw [if_neg (fun z => by have := z.2; omega)], rfl⟩
  · refine hG.1 [23] 80 _ _ _ _ ?_
    refine ⟨by omega, fun q => ?_, fun q => absurd rfl q⟩
    exact ⟨trivial, by rw [if_neg (fun z => h1 z.1)], rfl⟩
theorem c_Fp_shun {a b c : Int} (ha : -2147483648 ≤ a ∧ a ≤ 2147483647) (hb : -2147483648 ≤ b ∧ b ≤ 2147483647) (hc : -2147483648 ≤ c ∧ c ≤ 2147483647) (hL : zOkL n who ties) (hS : zOkS ss n) (hW : zOkW w) :
    zMet m_Fp_shun [.inr (.inr 0), .inl a, .inl b, .inl c] (wFp img w ks ss n who ties su cs sz tl) (fun v wd => v = some (.inl (if z3 n a b c then (if zSumN w 21 = 0 then -2 else ((zSf w ss n who ties a.toNat b.toNat c.toNat 21).1 : Int)) else -1)) ∧ wd = wFp img w ks ss n who ties su cs sz tl) := by
  have hn := hL.1
  have hsum := zSumN_in hW
  refine zMet.of (own := RX6) rfl (by decide +kernel) tk_Fp_shun fok_Fp cok_Fp (Nat.le_of_ble_eq_true rfl) (fun G hG => ?_)
  refine hG.1 [] 80 _ _ _ _ ?_
  refine hG.2.1 (c_Fp_areThree (img := img) (w := w) (ks := ks) (ss := ss) (n := n) (who := who) (ties := ties) (su := su) (cs := cs) (sz := sz) (tl := []) ha hb hc hn) yv_Fp_areThree lk_Fp_182 (by decide +kernel) rfl rfl (List.range' 0 46) (by decide +kernel) fa_pick rfl rfl (Nat.le_of_ble_eq_true rfl) (fun v w2 hv hl2 => ?_)
  rw [hv.2, fa_back]
  have hv := hv.1
  rcases hv with ⟨h1, rfl⟩ | ⟨h1, rfl⟩
  · refine hG.1 [] 80 _ _ _ _ ?_
    refine ⟨by omega, fun q => ?_, fun q => absurd q (by omega)⟩
    refine hG.2.1 (c_Su_together (w := w)) yv_Su_together lk_Fp_88 (by decide +kernel) rfl rfl [2, 3] (by decide +kernel) rfl rfl rfl (Nat.le_of_ble_eq_true rfl) (fun v w2 hv hl2 => ?_)
    obtain ⟨rfl, rfl⟩ := hv
    change G _ _ _ (wFp img w ks ss n who ties su cs sz tl)
    refine hG.1 [] 80 _ _ _ _ ?_
    refine ⟨by omega, fun h4 => ?_, fun h4 => ?_⟩
    · obtain ⟨i, rfl⟩ := z_nat h1.1.1
      obtain ⟨j, rfl⟩ := z_nat h1.2.1.1
      obtain ⟨k, rfl⟩ := z_nat h1.2.2.1.1
      have hij : i ≠ j := fun e => h1.2.2.2.1 (by rw [e])
      refine hG.2.1 (c_Ta_safestSlip (w := w) (ks := ks) (ss := ss) (n := n) (who := who) (ties := ties) (a := i) (b := j) (c := k) (by omega) (by omega) (by omega) hL hS hW hij) yv_Ta_safestSlip lk_Fp_194 (by decide +kernel) rfl rfl [1, 2, 3, 4, 5, 6] (by decide +kernel) rfl rfl rfl (Nat.le_of_ble_eq_true rfl) (fun v w2 hv hl2 => ?_)
      obtain ⟨rfl, rfl⟩ := hv
      change G _ _ _ (wFp img w ks ss n who ties su cs sz tl)
      refine hG.1 [] 80 _ _ _ _ ?_
      refine ⟨trivial, ?_, rfl⟩
      rw [if_pos h1, if_neg h4, Int.toNat_natCast, Int.toNat_natCast, Int.toNat_natCast] <;> rfl
    · exact ⟨trivial, by rw [if_pos h1, if_pos h4], rfl⟩
  · refine hG.1 [] 80 _ _ _ _ ?_
    refine ⟨by omega, fun q => absurd rfl q, fun q => ?_⟩
    exact ⟨trivial, by rw [if_neg h1], rfl⟩
theorem c_Fp_host {x g : Int} (hx : -2147483648 ≤ x ∧ x ≤ 2147483647) (hg : -2147483648 ≤ g ∧ g ≤ 2147483647) (hL : zOkL n who ties) (hS : zOkS ss n) :
    zMet m_Fp_host [.inr (.inr 0), .inl x, .inl g] (wFp img w ks ss n who ties su cs sz tl) (fun v wd => v = some (.inl (if (0 < x ∧ x < 2097152) ∧ (0 ≤ g ∧ g < n) then (zHs x (zDue ss n who ties g.toNat) 21).1 else -1)) ∧ wd = wFp img w ks ss n who ties su cs sz tl) := by
  obtain ⟨hn, hwho, hties⟩ := hL
  refine zMet.of (own := RX6) rfl (by decide +kernel) tk_Fp_host fok_Fp cok_Fp (Nat.le_of_ble_eq_true rfl) (fun G hG => ?_)
  refine hG.1 [] 80 _ _ _ _ ?_
  refine hG.2.2.1 (c_Fp_isSetOfSums hx) ys_Fp_isSetOfSums (Or.inl lk_Fp_198) (by decide +kernel) rfl [] (by decide +kernel) rfl rfl rfl (Nat.le_of_ble_eq_true rfl) (fun v w2 hv hl2 => ?_)
  obtain ⟨⟨h1, rfl⟩ | ⟨h1, rfl⟩, rfl⟩ := hv
  · change G _ _ _ (wFp img w ks ss n who ties su cs sz tl)
    refine hG.1 [] 80 _ _ _ _ ?_
    refine ⟨by omega, fun q => absurd q (by omega), fun q => ?_⟩
    refine hG.2.1 (c_Co_has hg hn) yv_Co_has lk_Fp_76 (by decide +kernel) rfl rfl [4, 5, 6] (by decide +kernel) rfl rfl rfl (Nat.le_of_ble_eq_true rfl) (fun v w2 hv hl2 => ?_)
    obtain ⟨⟨h2, rfl⟩ | ⟨h2, rfl⟩, rfl⟩ := hv
    · change G _ _ _ (wFp img w ks ss n who ties su cs sz tl)
      obtain ⟨k, rfl⟩ := z_nat h2.1
      have hdue : ∀ j : Nat, j < 21 → 0 ≤ zDue ss n who ties k j ∧ zDue ss n who ties k j ≤ 50400 := fun j hj => by
        have hsh := zSh_in ss n who ties j k (zFree ss n who)
        have hd1 : zDue ss n who ties k j ≤ 20 * 2520 := Int.mul_le_mul (by omega) hsh.2 hsh.1 (by omega)
        exact ⟨Int.mul_nonneg (by omega) hsh.1, by omega⟩
      have hst : ∀ i : Nat, i ≤ 21 → (-1 ≤ (zHs x (zDue ss n who ties k) i).1 ∧ (zHs x (zDue ss n who ties k) i).1 ≤ 21) ∧ (-1 ≤ (zHs x (zDue ss n who ties k) i).2 ∧ (zHs x (zDue ss n who ties k) i).2 ≤ 50400) := by
        intro i
        induction i with
        | zero => intro _; show (-1 ≤ (-1 : Int) ∧ (-1 : Int) ≤ 21) ∧ (-1 ≤ (-1 : Int) ∧ (-1 : Int) ≤ 50400); omega
        | succ i ih =>
          intro hi
          have h3 := ih (by omega)
          have h4 := hdue i (by omega)
          unfold zHs; split
          · show (-1 ≤ (i : Int) ∧ (i : Int) ≤ 21) ∧ (-1 ≤ zDue ss n who ties k i ∧ zDue ss n who ties k i ≤ 50400); omega
          · omega
      refine hG.1 [31] 80 _ _ _ _ ?_
      refine ⟨by omega, fun q2 => ?_, fun q2 => absurd q2 (by omega)⟩
      refine z_up0 (n := 21) (P := fun i : Nat => G 31 [(0, .inr (.inr 0)), (1, .inl x), (2, .inl (k : Int)), (3, .inl (zHs x (zDue ss n who ties k) i).1), (4, .inl (zHs x (zDue ss n who ties k) i).2), (5, .inl (i : Int))] [] (wFp img w ks ss n who ties su cs sz tl)) ?_ (fun i hi ih => ?_)
      · refine hG.1 [] 80 _ _ _ _ ?_
        refine ⟨by omega, fun q3 => ?_, fun q3 => absurd q3 (by omega)⟩
        exact ⟨trivial, by rw [if_pos ⟨h1, h2⟩, Int.toNat_natCast], rfl⟩
      · have e : zHs x (zDue ss n who ties k) (i + 1) = if zBit x i ∧ (zHs x (zDue ss n who ties k) i).2 < zDue ss n who ties k i then ((i : Int), zDue ss n who ties k i) else zHs x (zDue ss n who ties k) i := rfl
        have hsti := hst i (by omega)
        have hdi := hdue i hi
        have hand := z_and_in (x / 2 ^ (i : Int).toNat) 1
        have back : (i : Int) * zSh ss n who ties i k (zFree ss n who) = zDue ss n who ties k i := rfl
        refine hG.1 [31] 80 _ _ _ _ ?_
        refine ⟨by omega, fun q3 => absurd q3 (by omega), fun q3 => ?_⟩
        refine ⟨by omega, by omega, fun q4 => ?_, fun q4 => ?_⟩
        · rw [e, if_neg (fun z => q4 z.1)] at ih
          exact ih
        · refine hG.2.1 (c_Co_due (g := k) (sum := (i : Int)) (by omega) hn hwho hties hS (by omega)) yv_Co_due lk_Fp_155 (by decide +kernel) rfl rfl [4, 5, 6] (by decide +kernel) rfl rfl rfl (Nat.le_of_ble_eq_true rfl) (fun v w2 hv hl2 => ?_)
          obtain ⟨rfl, rfl⟩ := hv
          change G _ _ _ (wFp img w ks ss n who ties su cs sz tl)
          rw [back]
          refine hG.1 [31] 80 _ _ _ _ ?_
          refine ⟨by omega, fun q5 => ?_, fun q5 => ?_⟩
          · rw [e, if_neg (fun z => by omega)] at ih
            exact ih
          · refine hG.2.1 (c_Co_due (g := k) (sum := (i : Int)) (by omega) hn hwho hties hS (by omega)) yv_Co_due lk_Fp_155 (by decide +kernel) rfl rfl [4, 5, 6] (by decide +kernel) rfl rfl rfl (Nat.le_of_ble_eq_true rfl) (fun v w2 hv hl2 => ?_)
            obtain ⟨rfl, rfl⟩ := hv
            change G _ _ _ (wFp img w ks ss n who ties su cs sz tl)
            rw [back]
            rw [e, if_pos ⟨q4, q5⟩] at ih
            refine hG.1 [31] 80 _ _ _ _ ?_
            exact ih
    · change G _ _ _ (wFp img w ks ss n who ties su cs sz tl)
      refine hG.1 [] 80 _ _ _ _ ?_
      refine ⟨by omega, fun q2 => absurd rfl q2, fun q2 => ?_⟩
      exact ⟨trivial, by rw [if_neg (fun z => h2 z.2)], rfl⟩
  · change G _ _ _ (wFp img w ks ss n who ties su cs sz tl)
    refine hG.1 [] 80 _ _ _ _ ?_
    refine ⟨by omega, fun q => ?_, fun q => absurd rfl q⟩
    exact ⟨trivial, by rw [if_neg (fun z => h1 z.1)], rfl⟩
theorem c_Fp_choice {x : Int} (hx : -2147483648 ≤ x ∧ x ≤ 2147483647) (hL : zOkL n who ties) (hS : zOkS ss n) :
    zMet m_Fp_choice [.inr (.inr 0), .inl x] (wFp img w ks ss n who ties su cs sz tl) (fun v wd => v = some (.inl (if 0 < x ∧ x < 2097152 then (zPop 9 (zChM x ss n who ties 21) : Int) else -1)) ∧ wd = wFp img w ks ss n who ties su cs sz tl) := by
  obtain ⟨hn, hwho, hties⟩ := hL
  refine zMet.of (own := RX6) rfl (by decide +kernel) tk_Fp_choice fok_Fp cok_Fp (Nat.le_of_ble_eq_true rfl) (fun G hG => ?_)
  refine hG.1 [] 80 _ _ _ _ ?_
  refine hG.2.2.1 (c_Fp_isSetOfSums hx) ys_Fp_isSetOfSums (Or.inl lk_Fp_198) (by decide +kernel) rfl [] (by decide +kernel) rfl rfl rfl (Nat.le_of_ble_eq_true rfl) (fun v w2 hv hl2 => ?_)
  obtain ⟨⟨h1, rfl⟩ | ⟨h1, rfl⟩, rfl⟩ := hv
  · change G _ _ _ (wFp img w ks ss n who ties su cs sz tl)
    refine hG.1 [13] 80 _ _ _ _ ?_
    refine ⟨by omega, fun q => ?_, fun q => absurd q (by omega)⟩
    have e1 : zChM x ss n who ties 1 = 0 := by
      exact if_neg (fun z => Nat.not_succ_le_zero 0 z.1)
    suffices L : ∀ i, i ≤ 21 → (1 ≤ i → G 13 [(0, .inr (.inr 0)), (1, .inl x), (2, .inl (zChM x ss n who ties i : Int)), (3, .inl (i : Int))] [] (wFp img w ks ss n who ties su cs sz tl)) by
      have := L 1 (by omega) (by omega)
      rw [e1] at this; exact this
    refine z_up (fun hb => ?_) (fun i hi ih hb => ?_)
    · have hlt := zChM_lt (x := x) (ss := ss) (who := who) (ties := ties) hn 21
      refine hG.1 [] 80 _ _ _ _ ?_
      refine ⟨by omega, fun q3 => ?_, fun q3 => absurd q3 (by omega)⟩
      refine hG.2.2.1 (c_Ja_bitCount hlt) ys_Ja_bitCount (Or.inl lk_Fp_201) (by decide +kernel) rfl [] (by decide +kernel) rfl rfl rfl (Nat.le_of_ble_eq_true rfl) (fun v w2 hv hl2 => ?_)
      obtain ⟨rfl, rfl⟩ := hv
      change G _ _ _ (wFp img w ks ss n who ties su cs sz tl)
      refine hG.1 [] 80 _ _ _ _ ?_
      exact ⟨trivial, by rw [if_pos h1] <;> rfl, rfl⟩
    · have e : zChM x ss n who ties (i + 1) = if 1 ≤ i ∧ zBit x i then zChM x ss n who ties i ||| zMaskN (zPay ss n who ties i) n else zChM x ss n who ties i := rfl
      have hand := z_and_in (x / 2 ^ (i : Int).toNat) 1
      have hlt := zChM_lt (x := x) (ss := ss) (who := who) (ties := ties) hn i
      have hm9 := zMask9 (p := zPay ss n who ties i) hn
      have ih := ih (by omega)
      refine hG.1 [13] 80 _ _ _ _ ?_
      refine ⟨by omega, fun q3 => absurd q3 (by omega), fun q3 => ?_⟩
      refine ⟨by omega, by omega, fun q4 => ?_, fun q4 => ?_⟩
      · rw [e, if_neg (fun z => q4 z.2)] at ih
        exact ih
      · refine hG.2.1 (c_Co_payers (sum := (i : Int)) hn hwho hties hS (by omega)) yv_Co_payers lk_Fp_149 (by decide +kernel) rfl rfl [4, 5, 6] (by decide +kernel) rfl rfl rfl (Nat.le_of_ble_eq_true rfl) (fun v w2 hv hl2 => ?_)
        obtain ⟨rfl, rfl⟩ := hv
        change G _ _ _ (wFp img w ks ss n who ties su cs sz tl)
        rw [e, if_pos ⟨hb, q4⟩, ← z_orN (by omega) (by omega)] at ih
        refine hG.1 [13] 80 _ _ _ _ ?_
        exact ih
  · change G _ _ _ (wFp img w ks ss n who ties su cs sz tl)
    refine hG.1 [] 80 _ _ _ _ ?_
    refine ⟨by omega, fun q => absurd rfl q, fun q => ?_⟩
    exact ⟨trivial, by rw [if_neg h1], rfl⟩
end Fo
