/-! FARTHESTPAYS: nights of now; bytes -/
section Fq
variable {img : Int} {w ks ss : Int → Int} {n : Nat} {who ties : Int} {su : Int → Int} {cs : Nat → zCD} {sz : Nat} {tl : zW}
theorem c_Fp_knew (hz : sz ≤ 12) (hc : ∀ i, i < sz → zOkC (cs i)) (hs : ∀ i : Nat, i < sz → 0 ≤ su i ∧ su i ≤ 20) :
    zMet m_Fp_knew [.inr (.inr 0)] (wFp img w ks ss n who ties su cs sz tl) (fun v wd => v = some (.inl (zMaskN (zKnewB su cs sz) 9 : Int)) ∧ wd = wFp img w ks ss n who ties su cs sz tl) := by
  refine zMet.of (own := RX6) rfl (by decide +kernel) tk_Fp_knew fok_Fp cok_Fp (Nat.le_of_ble_eq_true rfl) (fun G hG => ?_)
  refine hG.1 [] 80 _ _ _ _ ?_
  refine hG.2.1 (c_Ni_knowers hz hc hs) yv_Ni_knowers lk_Fp_209 (by decide +kernel) rfl rfl (List.range' 7 39) (by decide +kernel) fn_pick rfl rfl (Nat.le_of_ble_eq_true rfl) (fun v w2 hv hl2 => ?_)
  obtain ⟨rfl, rfl⟩ := hv
  rw [fn_back]
  refine hG.1 [] 80 _ _ _ _ ?_
  exact ⟨trivial, rfl, rfl⟩
theorem c_Fp_forget :
    zMet m_Fp_forget [.inr (.inr 0)] (wFp img w ks ss n who ties su cs sz tl) (fun v wd => v = some (.inl (sz : Int)) ∧ wd = wFp img w ks ss n who ties su cs 0 tl) := by
  refine zMet.of (own := RX6) rfl (by decide +kernel) tk_Fp_forget fok_Fp cok_Fp (Nat.le_of_ble_eq_true rfl) (fun G hG => ?_)
  refine hG.1 [] 80 _ _ _ _ ?_
  refine hG.2.1 (c_Ni_size (su := su) (cs := cs) (sz := sz)) yv_Ni_size lk_Fp_148 (by decide +kernel) rfl rfl (List.range' 7 39) (by decide +kernel) fn_pick rfl rfl (Nat.le_of_ble_eq_true rfl) (fun v w2 hv hl2 => ?_)
  obtain ⟨rfl, rfl⟩ := hv
  rw [fn_back]
  refine hG.1 [] 80 _ _ _ _ ?_
  refine hG.2.1 (c_Ni_clear (su := su) (cs := cs) (sz := sz)) yv_Ni_clear lk_Fp_140 (by decide +kernel) rfl rfl (List.range' 7 39) (by decide +kernel) fn_pick rfl rfl (Nat.le_of_ble_eq_true rfl) (fun v w2 hv hl2 => ?_)
  obtain ⟨rfl, rfl⟩ := hv
  rw [fn_back]
  refine hG.1 [] 80 _ _ _ _ ?_
  exact ⟨trivial, rfl, rfl⟩
theorem c_Fp_leagues {g x : Int} (hg : -2147483648 ≤ g ∧ g ≤ 2147483647) (hx : -2147483648 ≤ x ∧ x ≤ 2147483647) (hn : n ≤ 9) (hz : sz ≤ 12) (hc : ∀ i, i < sz → zOkC (cs i)) (hs : ∀ i : Nat, i < sz → 0 ≤ su i ∧ su i ≤ 20) :
    zMet m_Fp_leagues [.inr (.inr 0), .inl g, .inl x] (wFp img w ks ss n who ties su cs sz tl) (fun v wd =>
      ((((0 ≤ g ∧ g < n) ∧ x = 0) ∧ ((zPaid su cs sz g.toNat ∧ v = some (.inl (zPrA (zBtw cs sz g.toNat) 9 : Int))) ∨ (¬ zPaid su cs sz g.toNat ∧ v = some (.inl 0)))) ∨
       (((0 ≤ g ∧ g < n) ∧ x = 1) ∧ ((zPaid su cs sz g.toNat ∧ ∃ r, v = some (.inl (if r < 0 then -4 else r)) ∧ zFirst (zBtw cs sz g.toNat) 9 r) ∨ (¬ zPaid su cs sz g.toNat ∧ v = some (.inl (-4))))) ∨
       (¬ ((0 ≤ g ∧ g < n) ∧ (0 ≤ x ∧ x ≤ 1)) ∧ v = some (.inl (-1)))) ∧ wd = wFp img w ks ss n who ties su cs sz tl) := by
  refine zMet.of (own := RX6) rfl (by decide +kernel) tk_Fp_leagues fok_Fp cok_Fp (Nat.le_of_ble_eq_true rfl) (fun G hG => ?_)
  refine hG.1 [] 80 _ _ _ _ ?_
  refine hG.2.1 (c_Co_has hg hn) yv_Co_has lk_Fp_76 (by decide +kernel) rfl rfl [4, 5, 6] (by decide +kernel) rfl rfl rfl (Nat.le_of_ble_eq_true rfl) (fun v w2 hv hl2 => ?_)
  obtain ⟨⟨h1, rfl⟩ | ⟨h1, rfl⟩, rfl⟩ := hv
  · change G _ _ _ (wFp img w ks ss n who ties su cs sz tl)
    refine hG.1 [25] 80 _ _ _ _ ?_
    refine ⟨by omega, fun q => absurd q (by omega), fun q => ?_⟩
    refine ⟨by omega, fun q2 => ?_, fun q2 => ?_⟩
    · exact ⟨trivial, Or.inr (Or.inr ⟨fun z => by have := z.2; omega, rfl⟩), rfl⟩
    · refine ⟨by omega, fun q3 => ?_, fun q3 => ?_⟩
      · obtain ⟨k, rfl⟩ := z_nat h1.1
        rw [Int.toNat_natCast]
        refine hG.1 [] 80 _ _ _ _ ?_
        refine ⟨by omega, fun q4 => ?_, fun q4 => ?_⟩
        · refine hG.2.1 (c_Ni_firstPairAgainst (su := su) (cs := cs) (sz := sz) (g := k) (by omega) hz hc hs) yv_Ni_firstPairAgainst lk_Fp_215 (by decide +kernel) rfl rfl (List.range' 7 39) (by decide +kernel) fn_pick rfl rfl (Nat.le_of_ble_eq_true rfl) (fun v w2 hv hl2 => ?_)
          rw [hv.2, fn_back]
          rcases hv.1 with ⟨h2, r, rfl, h3⟩ | ⟨h2, rfl⟩
          · have hr : -1 ≤ r ∧ r ≤ 100 := by
              rcases h3 with ⟨rfl, _⟩ | ⟨a, b, hab, hb9, _, rfl, _⟩ <;> omega
            refine hG.1 [] 80 _ _ _ _ ?_
            refine ⟨by omega, fun q5 => ?_, fun q5 => ?_⟩
            · exact ⟨trivial, Or.inr (Or.inl ⟨⟨h1, by omega⟩, Or.inl ⟨h2, r, by rw [if_neg (by omega)], h3⟩⟩), rfl⟩
            · exact ⟨trivial, Or.inr (Or.inl ⟨⟨h1, by omega⟩, Or.inl ⟨h2, r, by rw [if_pos (by omega)], h3⟩⟩), rfl⟩
          · refine hG.1 [] 80 _ _ _ _ ?_
            refine ⟨by omega, fun q5 => absurd q5 (by omega), fun q5 => ?_⟩
            exact ⟨trivial, Or.inr (Or.inl ⟨⟨h1, by omega⟩, Or.inr ⟨h2, rfl⟩⟩), rfl⟩
        · refine hG.2.1 (c_Ni_pairsAgainst (su := su) (cs := cs) (sz := sz) (g := k) (by omega) hz hc hs) yv_Ni_pairsAgainst lk_Fp_212 (by decide +kernel) rfl rfl (List.range' 7 39) (by decide +kernel) fn_pick rfl rfl (Nat.le_of_ble_eq_true rfl) (fun v w2 hv hl2 => ?_)
          rw [hv.2, fn_back]
          rcases hv.1 with ⟨h2, rfl⟩ | ⟨h2, rfl⟩
          · refine hG.1 [] 80 _ _ _ _ ?_
            exact ⟨trivial, Or.inl ⟨⟨h1, q4⟩, Or.inl ⟨h2, rfl⟩⟩, rfl⟩
          · refine hG.1 [] 80 _ _ _ _ ?_
            exact ⟨trivial, Or.inl ⟨⟨h1, q4⟩, Or.inr ⟨h2, rfl⟩⟩, rfl⟩
      · exact ⟨trivial, Or.inr (Or.inr ⟨fun z => by have := z.2; omega, rfl⟩), rfl⟩
  · change G _ _ _ (wFp img w ks ss n who ties su cs sz tl)
    refine hG.1 [25] 80 _ _ _ _ ?_
    refine ⟨by omega, fun q => ?_, fun q => absurd rfl q⟩
    exact ⟨trivial, Or.inr (Or.inr ⟨fun z => h1 z.1, rfl⟩), rfl⟩
end Fq
def zByte (x : Int) (i : Nat) : Int := z_and (z_lushr x (8 * (i : Int))) 255
theorem c_Fp_byteOf {x : Int} {i : Nat} (hi : i < 8) : zMet m_Fp_byteOf [.inr (.inl x), .inl i] [] (fun v w => v = some (.inl (zByte x i)) ∧ w = []) := by
  refine zMet.of (own := RX6) rfl (by decide +kernel) tk_Fp_byteOf fok_Fp cok_Fp (Nat.le_of_ble_eq_true rfl) (fun G hG => ?_)
  refine hG.1 [] 80 _ _ _ _ ?_
  refine Or.inl ?_
  exact ⟨trivial, rfl, rfl⟩
theorem c_Fp_isPrintable {x : Int} {k : Nat} (hk : k ≤ 8) : zMet m_Fp_isPrintable [.inr (.inl x), .inl k] [] (fun v w => z_bool (∀ i : Nat, i < k → 32 ≤ zByte x i ∧ zByte x i ≤ 126) v ∧ w = []) := by
  refine zMet.of (own := RX6) rfl (by decide +kernel) tk_Fp_isPrintable fok_Fp cok_Fp (Nat.le_of_ble_eq_true rfl) (fun G hG => ?_)
  refine hG.1 [2] 80 _ _ _ _ ?_
  suffices L : ∀ i, i ≤ k → ((∀ o : Nat, o < i → 32 ≤ zByte x o ∧ zByte x o ≤ 126) → G 2 [(0, .inr (.inl x)), (2, .inl (k : Int)), (3, .inl (i : Int))] [] []) from L 0 (by omega) (fun o h => by omega)
  refine z_up (fun hb => ?_) (fun i hi ih hb => ?_)
  · refine hG.1 [] 80 _ _ _ _ ?_
    refine ⟨by omega, fun h1 => ?_, fun h1 => absurd h1 (by omega)⟩
    exact ⟨Or.inr rfl, Or.inl ⟨hb, rfl⟩, rfl⟩
  · have hr := z_and_in (z_lushr x (8 * (i : Int))) 255
    have back : z_and (z_lushr x (8 * (i : Int))) 255 = zByte x i := rfl
    rw [back] at hr
    have out : ¬ (32 ≤ zByte x i ∧ zByte x i ≤ 126) → z_bool (∀ i : Nat, i < k → 32 ≤ zByte x i ∧ zByte x i ≤ 126) (some (.inl 0)) := fun h => Or.inr ⟨fun z => h (z i hi), rfl⟩
    refine hG.1 [] 80 _ _ _ _ ?_
    refine ⟨by omega, fun h1 => absurd h1 (by omega), fun h1 => ?_⟩
    refine hG.2.2.1 (c_Fp_byteOf (x := x) (i := i) (by omega)) ys_Fp_byteOf (Or.inl lk_Fp_112) (by decide +kernel) rfl [] (by decide +kernel) rfl rfl rfl (Nat.le_of_ble_eq_true rfl) (fun v w2 hv hl2 => ?_)
    obtain ⟨rfl, rfl⟩ := hv
    refine hG.1 [2] 80 _ _ _ _ ?_
    refine ⟨by omega, fun h2 => ?_, fun h2 => ?_⟩
    · exact ⟨Or.inl rfl, out (by omega), rfl⟩
    · refine ⟨by omega, fun h3 => ?_, fun h3 => ?_⟩
      · exact hG.2.2.2.2.1 (fun q hq => List.mem_append_left _ hq) (ih (fun o ho => by
          rcases Nat.lt_succ_iff_lt_or_eq.mp ho with h | rfl
          · exact hb o h
          · exact ⟨h2, h3⟩))
      · exact ⟨Or.inl rfl, out (by omega), rfl⟩
