/-! NIGHTS of the class: contracts -/
def zKnew (su : Int → Int) (cs : Nat → zCD) (sz g : Nat) : Prop := 0 < sz ∧ ∀ i, i < sz → g < (cs i).2.2.1 ∧ (cs i).2.1 g = su i
noncomputable def zKnewB (su : Int → Int) (cs : Nat → zCD) (sz : Nat) : Nat → Bool := fun g => @decide (zKnew su cs sz g) (Classical.propDecidable _)
noncomputable def zShD (c : zCD) (sum : Int) (g : Nat) : Int := zSh c.2.1 c.2.2.1 c.2.2.2.1 c.2.2.2.2 sum g (zFree c.2.1 c.2.2.1 c.2.2.2.1)
def zPaid (su : Int → Int) (cs : Nat → zCD) (sz g : Nat) : Prop := 0 < sz ∧ ∀ i, i < sz → zShD (cs i) (su i) g ≠ 0
def zBtw (cs : Nat → zCD) (sz g a b : Nat) : Prop := ∀ i, i < sz → a < (cs i).2.2.1 ∧ b < (cs i).2.2.1 ∧ (((cs i).2.1 a < (cs i).2.1 g ∧ (cs i).2.1 g < (cs i).2.1 b) ∨ ((cs i).2.1 b < (cs i).2.1 g ∧ (cs i).2.1 g < (cs i).2.1 a))
noncomputable def zPrB (B : Nat → Nat → Prop) (a : Nat) : Nat → Nat
  | 0 => 0
  | b + 1 => zPrB B a b + @ite _ (a < b ∧ B a b) (Classical.propDecidable _) 1 0
noncomputable def zPrA (B : Nat → Nat → Prop) : Nat → Nat
  | 0 => 0
  | a + 1 => zPrA B a + zPrB B a 9
theorem zPrB_0 (B : Nat → Nat → Prop) (a : Nat) : ∀ b, b ≤ a + 1 → zPrB B a b = 0
  | 0, _ => rfl
  | b + 1, h => by
    unfold zPrB
    rw [zPrB_0 B a b (by omega), if_neg (fun z => by omega)]
def zFirst (B : Nat → Nat → Prop) (N : Nat) (r : Int) : Prop := (r = -1 ∧ ∀ a b : Nat, a < b → b < N → ¬ B a b) ∨ ∃ a b : Nat, a < b ∧ b < N ∧ B a b ∧ r = 10 * (a : Int) + b ∧ ∀ a' b' : Nat, a' < b' → b' < N → (a' < a ∨ (a' = a ∧ b' < b)) → ¬ B a' b'
theorem z_nd3 (i : Nat) : [3 + 3 * i, 3 + 3 * i + 1, 3 + 3 * i + 2].Nodup := by
  simp
theorem z_nd6 {i : Nat} (h : i < 12) : [3 + 3 * i, 3 + 3 * i + 1, 3 + 3 * i + 2, 39, 40, 41].Nodup := by
  simp; omega
theorem z_nd6c {i : Nat} (h : i < 12) : [3 + 3 * i, 3 + 3 * i + 1, 3 + 3 * i + 2, 42 + 3 * i, 42 + 3 * i + 1, 42 + 3 * i + 2].Nodup := by
  simp; omega
section Ni
variable {su : Int → Int} {cs : Nat → zCD} {sz : Nat}
theorem c_Ni_size : zMet m_Ni_size [.inr (.inr 0)] (wNi su cs sz) (fun v w => v = some (.inl (sz : Int)) ∧ w = wNi su cs sz) := by
  refine zMet.of (own := RX1) rfl (by decide +kernel) tk_Ni_size fok_Ni cok_Ni (Nat.le_of_ble_eq_true rfl) (fun G hG => ?_)
  refine hG.1 [] 80 _ _ _ _ ?_
  exact ⟨trivial, rfl, rfl⟩
theorem c_Ni_clear : zMet m_Ni_clear [.inr (.inr 0)] (wNi su cs sz) (fun v w => v = none ∧ w = wNi su cs 0) := by
  refine zMet.of (own := RX1) rfl (by decide +kernel) tk_Ni_clear fok_Ni cok_Ni (Nat.le_of_ble_eq_true rfl) (fun G hG => ?_)
  refine hG.1 [] 80 _ _ _ _ ?_
  exact ⟨trivial, rfl, rfl⟩
theorem c_Ni_append {x : Int} {c : zCD} (hz : sz < 12) : zMet m_Ni_append [.inr (.inr 0), .inl x, .inr (.inr 39)] (wNiCo su cs sz c) (fun v w => v = none ∧ w = wNiCo (z_u su sz x) (z_un cs sz (zCpC (cs sz) c)) (sz + 1) c) := by
  refine zMet.of (own := RX1) rfl (by decide +kernel) tk_Ni_append fok_Ni cok_Ni (Nat.le_of_ble_eq_true rfl) (fun G hG => ?_)
  refine hG.1 [] 80 _ _ _ _ ?_
  refine ⟨by omega, fun h1 => absurd h1 (by omega), fun h1 => ?_⟩
  refine ⟨by omega, by omega, ?_⟩
  refine hG.2.1 (c_Co_copyFrom (ks := (cs sz).1) (ss := (cs sz).2.1) (n := (cs sz).2.2.1) (who := (cs sz).2.2.2.1) (ties := (cs sz).2.2.2.2) (ks' := c.1) (ss' := c.2.1) (n' := c.2.2.1) (who' := c.2.2.2.1) (ties' := c.2.2.2.2)) yv_Co_copyFrom lk_Ni_26 (by decide +kernel) rfl rfl [3 + 3 * sz, 3 + 3 * sz + 1, 3 + 3 * sz + 2, 39, 40, 41] (z_nd6 hz) (ni_pickA (su := z_u su sz x) sz hz) rfl rfl (Nat.le_of_ble_eq_true rfl) (fun v w2 hv hl2 => ?_)
  obtain ⟨rfl, rfl⟩ := hv
  have e := ni_putA (su := z_u su sz x) (cs := cs) (sz := sz) (c := c) (d := zCpC (cs sz) c) sz hz
  suffices L : G 32 [(0, .inr (.inr 0)), (1, .inl x), (2, .inr (.inr 39))] [] (wNiCo (z_u su sz x) (z_un cs sz (zCpC (cs sz) c)) sz c) by
    rw [← e] at L; exact L
  refine hG.1 [] 80 _ _ _ _ ?_
  exact ⟨trivial, rfl, rfl⟩
theorem c_Ni_alwaysKnew {g : Nat} (hg : g < 100) (hz : sz ≤ 12) (hc : ∀ i, i < sz → zOkC (cs i)) (hs : ∀ i : Nat, i < sz → 0 ≤ su i ∧ su i ≤ 20) :
    zMet m_Ni_alwaysKnew [.inr (.inr 0), .inl g] (wNi su cs sz) (fun v w => z_bool (zKnew su cs sz g) v ∧ w = wNi su cs sz) := by
  refine zMet.of (own := RX1) rfl (by decide +kernel) tk_Ni_alwaysKnew fok_Ni cok_Ni (Nat.le_of_ble_eq_true rfl) (fun G hG => ?_)
  refine hG.1 [2] 80 _ _ _ _ ?_
  suffices L : ∀ i, i ≤ sz → ((∀ o, o < i → g < (cs o).2.2.1 ∧ (cs o).2.1 g = su o) → G 2 [(0, .inr (.inr 0)), (1, .inl (g : Int)), (2, .inl (i : Int))] [] (wNi su cs sz)) from L 0 (by omega) (fun o h => by omega)
  refine z_up (fun hb => ?_) (fun i hi ih hb => ?_)
  · refine hG.1 [] 80 _ _ _ _ ?_
    refine ⟨by omega, fun h1 => ?_, fun h1 => absurd h1 (by omega)⟩
    refine ⟨by omega, fun h2 => ?_, fun h2 => ?_⟩
    · exact ⟨Or.inl rfl, Or.inr ⟨fun z => by have := z.1; omega, rfl⟩, rfl⟩
    · exact ⟨Or.inr rfl, Or.inl ⟨⟨by omega, hb⟩, rfl⟩, rfl⟩
  · obtain ⟨k1, k2, k3, k4⟩ := hc i hi
    have k5 := hs i hi
    have out : ¬ (g < (cs i).2.2.1 ∧ (cs i).2.1 g = su i) → z_bool (zKnew su cs sz g) (some (.inl 0)) := fun h => Or.inr ⟨fun z => h (z.2 i hi), rfl⟩
    refine hG.1 [2] 80 _ _ _ _ ?_
    refine ⟨by omega, fun h1 => absurd h1 (by omega), fun h1 => ?_⟩
    refine ⟨by omega, ?_⟩
    refine hG.2.1 (c_Co_has (ks := (cs i).1) (ss := (cs i).2.1) (n := (cs i).2.2.1) (who := (cs i).2.2.2.1) (ties := (cs i).2.2.2.2) (g := (g : Int)) (by omega) k1) yv_Co_has lk_Ni_34 (by decide +kernel) rfl rfl [3 + 3 * i, 3 + 3 * i + 1, 3 + 3 * i + 2] (z_nd3 i) (ni_pick i (by omega)) rfl rfl (Nat.le_of_ble_eq_true rfl) (fun v w2 hv hl2 => ?_)
    obtain ⟨hv, rfl⟩ := hv
    rw [ni_back i (by omega)]
    rcases hv with ⟨hc1, rfl⟩ | ⟨hc1, rfl⟩
    · refine hG.1 [2] 80 _ _ _ _ ?_
      refine ⟨by omega, fun h2 => absurd h2 (by omega), fun h2 => ?_⟩
      refine ⟨by omega, ?_⟩
      refine hG.2.1 (c_Co_slipOf (ks := (cs i).1) (ss := (cs i).2.1) (n := (cs i).2.2.1) (who := (cs i).2.2.2.1) (ties := (cs i).2.2.2.2) (g := g) (by omega) k1) yv_Co_slipOf lk_Ni_37 (by decide +kernel) rfl rfl [3 + 3 * i, 3 + 3 * i + 1, 3 + 3 * i + 2] (z_nd3 i) (ni_pick i (by omega)) rfl rfl (Nat.le_of_ble_eq_true rfl) (fun v w2 hv hl2 => ?_)
      obtain ⟨rfl, rfl⟩ := hv
      rw [ni_back i (by omega)]
      have k6 := k2 g (by omega)
      refine hG.1 [2] 80 _ _ _ _ ?_
      refine ⟨by omega, by omega, fun h3 => ?_, fun h3 => ?_⟩
      · exact ih (fun o ho => by
          rcases Nat.lt_succ_iff_lt_or_eq.mp ho with h | rfl
          · exact hb o h
          · exact ⟨by omega, h3⟩)
      · exact ⟨Or.inl rfl, out (fun z => h3 z.2), rfl⟩
    · refine hG.1 [2] 80 _ _ _ _ ?_
      refine ⟨by omega, fun h2 => ?_, fun h2 => absurd rfl h2⟩
      exact ⟨Or.inl rfl, out (fun z => hc1 (by omega)), rfl⟩
theorem c_Ni_knowers (hz : sz ≤ 12) (hc : ∀ i, i < sz → zOkC (cs i)) (hs : ∀ i : Nat, i < sz → 0 ≤ su i ∧ su i ≤ 20) :
    zMet m_Ni_knowers [.inr (.inr 0)] (wNi su cs sz) (fun v w => v = some (.inl (zMaskN (zKnewB su cs sz) 9 : Int)) ∧ w = wNi su cs sz) := by
  refine zMet.of (own := RX1) rfl (by decide +kernel) tk_Ni_knowers fok_Ni cok_Ni (Nat.le_of_ble_eq_true rfl) (fun G hG => ?_)
  refine hG.1 [4] 80 _ _ _ _ ?_
  refine z_up0 (n := 9) (P := fun i : Nat => G 4 [(0, .inr (.inr 0)), (1, .inl (zMaskN (zKnewB su cs sz) i : Int)), (2, .inl (i : Int))] [] (wNi su cs sz)) ?_ (fun i hi ih => ?_)
  · refine hG.1 [] 80 _ _ _ _ ?_
    refine ⟨by omega, fun h1 => ?_, fun h1 => absurd h1 (by omega)⟩
    exact ⟨trivial, rfl, rfl⟩
  · refine hG.1 [4] 80 _ _ _ _ ?_
    refine ⟨by omega, fun h1 => absurd h1 (by omega), fun h1 => ?_⟩
    refine hG.2.1 (c_Ni_alwaysKnew (g := i) (by omega) hz hc hs) yv_Ni_alwaysKnew lk_Ni_30 (by decide +kernel) rfl rfl (List.range' 0 39) (by decide +kernel) ni_id rfl rfl (Nat.le_of_ble_eq_true rfl) (fun v w2 hv hl2 => ?_)
    rw [hv.2, ni_idb]
    have hv := hv.1
    have e : zMaskN (zKnewB su cs sz) (i + 1) = zMaskN (zKnewB su cs sz) i + (if zKnewB su cs sz i = true then 2 ^ i else 0) := rfl
    have hp : zKnewB su cs sz i = @decide (zKnew su cs sz i) (Classical.propDecidable _) := rfl
    rcases hv with ⟨hc1, rfl⟩ | ⟨hc1, rfl⟩
    · refine hG.1 [4] 80 _ _ _ _ ?_
      refine ⟨by omega, fun h2 => absurd h2 (by omega), fun h2 => ?_⟩
      rw [e, hp, if_pos (by simpa using hc1), ← z_bits1 i (by omega) _ (zMaskN_lt _ i)] at ih
      exact ⟨by omega, ih⟩
    · refine hG.1 [4] 80 _ _ _ _ ?_
      refine ⟨by omega, fun h2 => ?_, fun h2 => absurd rfl h2⟩
      rw [e, hp, if_neg (by simpa using hc1)] at ih
      exact ih
theorem c_Ni_alwaysPaid {g : Nat} (hg : g < 100) (hz : sz ≤ 12) (hc : ∀ i, i < sz → zOkC (cs i)) (hs : ∀ i : Nat, i < sz → 0 ≤ su i ∧ su i ≤ 20) :
    zMet m_Ni_alwaysPaid [.inr (.inr 0), .inl g] (wNi su cs sz) (fun v w => z_bool (zPaid su cs sz g) v ∧ w = wNi su cs sz) := by
  refine zMet.of (own := RX1) rfl (by decide +kernel) tk_Ni_alwaysPaid fok_Ni cok_Ni (Nat.le_of_ble_eq_true rfl) (fun G hG => ?_)
  refine hG.1 [2] 80 _ _ _ _ ?_
  suffices L : ∀ i, i ≤ sz → ((∀ o, o < i → zShD (cs o) (su o) g ≠ 0) → G 2 [(0, .inr (.inr 0)), (1, .inl (g : Int)), (2, .inl (i : Int))] [] (wNi su cs sz)) from L 0 (by omega) (fun o h => by omega)
  refine z_up (fun hb => ?_) (fun i hi ih hb => ?_)
  · refine hG.1 [] 80 _ _ _ _ ?_
    refine ⟨by omega, fun h1 => ?_, fun h1 => absurd h1 (by omega)⟩
    refine ⟨by omega, fun h2 => ?_, fun h2 => ?_⟩
    · exact ⟨Or.inl rfl, Or.inr ⟨fun z => by have := z.1; omega, rfl⟩, rfl⟩
    · exact ⟨Or.inr rfl, Or.inl ⟨⟨by omega, hb⟩, rfl⟩, rfl⟩
  · obtain ⟨k1, k2, k3, k4⟩ := hc i hi
    have k5 := hs i hi
    have hfr := zFree_in (cs i).2.1 (cs i).2.2.1 (cs i).2.2.2.1
    have hsh := zSh_in (cs i).2.1 (cs i).2.2.1 (cs i).2.2.2.1 (cs i).2.2.2.2 (su i) g (zFree (cs i).2.1 (cs i).2.2.1 (cs i).2.2.2.1)
    refine hG.1 [2] 80 _ _ _ _ ?_
    refine ⟨by omega, fun h1 => absurd h1 (by omega), fun h1 => ?_⟩
    refine ⟨by omega, by omega, ?_⟩
    refine hG.2.1 (c_Co_freeGuest (ks := (cs i).1) (ss := (cs i).2.1) (n := (cs i).2.2.1) (who := (cs i).2.2.2.1) (ties := (cs i).2.2.2.2) k1 k3 k2) yv_Co_freeGuest lk_Ni_48 (by decide +kernel) rfl rfl [3 + 3 * i, 3 + 3 * i + 1, 3 + 3 * i + 2] (z_nd3 i) (ni_pick i (by omega)) rfl rfl (Nat.le_of_ble_eq_true rfl) (fun v w2 hv hl2 => ?_)
    obtain ⟨rfl, rfl⟩ := hv
    rw [ni_back i (by omega)]
    refine hG.2.1 (c_Co_share (ks := (cs i).1) (ss := (cs i).2.1) (n := (cs i).2.2.1) (who := (cs i).2.2.2.1) (ties := (cs i).2.2.2.2) (g := g) (sum := su i) (free := zFree (cs i).2.1 (cs i).2.2.1 (cs i).2.2.2.1) (by omega) k1 k3 k4 k2 k5 (by omega)) yv_Co_share lk_Ni_52 (by decide +kernel) rfl rfl [3 + 3 * i, 3 + 3 * i + 1, 3 + 3 * i + 2] (z_nd3 i) (ni_pick i (by omega)) rfl rfl (Nat.le_of_ble_eq_true rfl) (fun v w2 hv hl2 => ?_)
    obtain ⟨rfl, rfl⟩ := hv
    rw [ni_back i (by omega)]
    refine hG.1 [2] 80 _ _ _ _ ?_
    refine ⟨by omega, fun h2 => ?_, fun h2 => ?_⟩
    · exact hG.2.2.2.2.1 (fun q hq => List.mem_append_left _ hq) (ih (fun o ho => by
        rcases Nat.lt_succ_iff_lt_or_eq.mp ho with h | rfl
        · exact hb o h
        · exact h2))
    · exact ⟨Or.inl rfl, Or.inr ⟨fun z => z.2 i hi h2, rfl⟩, rfl⟩
theorem c_Ni_alwaysBetween {g a b : Nat} (hg : ∀ i, i < sz → g < (cs i).2.2.1) (ha : a < 100) (hb0 : b < 100) (hz : sz ≤ 12) (hc : ∀ i, i < sz → zOkC (cs i)) :
    zMet m_Ni_alwaysBetween [.inr (.inr 0), .inl g, .inl a, .inl b] (wNi su cs sz) (fun v w => z_bool (zBtw cs sz g a b) v ∧ w = wNi su cs sz) := by
  refine zMet.of (own := RX1) rfl (by decide +kernel) tk_Ni_alwaysBetween fok_Ni cok_Ni (Nat.le_of_ble_eq_true rfl) (fun G hG => ?_)
  refine hG.1 [3] 80 _ _ _ _ ?_
  suffices L : ∀ i, i ≤ sz → (zBtw cs i g a b → G 3 [(0, .inr (.inr 0)), (1, .inl (g : Int)), (2, .inl (a : Int)), (3, .inl (b : Int)), (4, .inl (i : Int))] [] (wNi su cs sz)) from L 0 (by omega) (fun o h => by omega)
  refine z_up (fun hb => ?_) (fun i hi ih hb => ?_)
  · refine hG.1 [] 80 _ _ _ _ ?_
    refine ⟨by omega, fun h1 => ?_, fun h1 => absurd h1 (by omega)⟩
    exact ⟨Or.inr rfl, Or.inl ⟨hb, rfl⟩, rfl⟩
  · obtain ⟨k1, k2, k3, k4⟩ := hc i hi
    have hgi := hg i hi
    have out : ¬ (a < (cs i).2.2.1 ∧ b < (cs i).2.2.1 ∧ (((cs i).2.1 a < (cs i).2.1 g ∧ (cs i).2.1 g < (cs i).2.1 b) ∨ ((cs i).2.1 b < (cs i).2.1 g ∧ (cs i).2.1 g < (cs i).2.1 a))) → z_bool (zBtw cs sz g a b) (some (.inl 0)) := fun h => Or.inr ⟨fun z => h (z i hi), rfl⟩
    refine hG.1 [3] 80 _ _ _ _ ?_
    refine ⟨by omega, fun h1 => absurd h1 (by omega), fun h1 => ?_⟩
    refine ⟨by omega, ?_⟩
    refine hG.2.1 (c_Co_has (ks := (cs i).1) (ss := (cs i).2.1) (n := (cs i).2.2.1) (who := (cs i).2.2.2.1) (ties := (cs i).2.2.2.2) (g := (a : Int)) (by omega) k1) yv_Co_has lk_Ni_34 (by decide +kernel) rfl rfl [3 + 3 * i, 3 + 3 * i + 1, 3 + 3 * i + 2] (z_nd3 i) (ni_pick i (by omega)) rfl rfl (Nat.le_of_ble_eq_true rfl) (fun v w2 hv hl2 => ?_)
    obtain ⟨hv, rfl⟩ := hv
    rw [ni_back i (by omega)]
    rcases hv with ⟨hc1, rfl⟩ | ⟨hc1, rfl⟩
    · refine hG.1 [3] 80 _ _ _ _ ?_
      refine ⟨by omega, fun h2 => absurd h2 (by omega), fun h2 => ?_⟩
      refine hG.2.1 (c_Co_has (ks := (cs i).1) (ss := (cs i).2.1) (n := (cs i).2.2.1) (who := (cs i).2.2.2.1) (ties := (cs i).2.2.2.2) (g := (b : Int)) (by omega) k1) yv_Co_has lk_Ni_34 (by decide +kernel) rfl rfl [3 + 3 * i, 3 + 3 * i + 1, 3 + 3 * i + 2] (z_nd3 i) (ni_pick i (by omega)) rfl rfl (Nat.le_of_ble_eq_true rfl) (fun v w2 hv hl2 => ?_)
      obtain ⟨hv, rfl⟩ := hv
      rw [ni_back i (by omega)]
      rcases hv with ⟨hc2, rfl⟩ | ⟨hc2, rfl⟩
      · refine hG.1 [3] 80 _ _ _ _ ?_
        refine ⟨by omega, fun h3 => absurd h3 (by omega), fun h3 => ?_⟩
        refine hG.2.1 (c_Co_isBetween (ks := (cs i).1) (ss := (cs i).2.1) (n := (cs i).2.2.1) (who := (cs i).2.2.2.1) (ties := (cs i).2.2.2.2) (g := g) (a := a) (b := b) hgi (by omega) (by omega) k1 k2) yv_Co_isBetween lk_Ni_56 (by decide +kernel) rfl rfl [3 + 3 * i, 3 + 3 * i + 1, 3 + 3 * i + 2] (z_nd3 i) (ni_pick i (by omega)) rfl rfl (Nat.le_of_ble_eq_true rfl) (fun v w2 hv hl2 => ?_)
        obtain ⟨hv, rfl⟩ := hv
        rw [ni_back i (by omega)]
        rcases hv with ⟨hc3, rfl⟩ | ⟨hc3, rfl⟩
        · refine hG.1 [3] 80 _ _ _ _ ?_
          refine ⟨by omega, fun h4 => ?_, fun h4 => absurd h4 (by omega)⟩
          exact hG.2.2.2.2.1 (fun q hq => List.mem_append_left _ hq) (ih (fun o ho => by
            rcases Nat.lt_succ_iff_lt_or_eq.mp ho with h | rfl
            · exact hb o h
            · exact ⟨by omega, by omega, hc3⟩))
        · refine hG.1 [3] 80 _ _ _ _ ?_
          refine ⟨by omega, fun h4 => absurd rfl h4, fun h4 => ?_⟩
          exact ⟨Or.inl rfl, out (fun z => hc3 z.2.2), rfl⟩
      · refine hG.1 [3] 80 _ _ _ _ ?_
        refine ⟨by omega, fun h3 => ?_, fun h3 => absurd rfl h3⟩
        exact ⟨Or.inl rfl, out (fun z => hc2 (by omega)), rfl⟩
    · refine hG.1 [3] 80 _ _ _ _ ?_
      refine ⟨by omega, fun h2 => ?_, fun h2 => absurd rfl h2⟩
      exact ⟨Or.inl rfl, out (fun z => hc1 (by omega)), rfl⟩
theorem zSh_has {c : zCD} {sum : Int} {g : Nat} (h : zShD c sum g ≠ 0) : g < c.2.2.1 := by
  unfold zShD zSh at h
  by_cases hg : c.2.2.1 ≤ g
  · rw [if_pos (Or.inl hg)] at h; exact absurd rfl h
  · omega
theorem c_Ni_pairsAgainst {g : Nat} (hg : g < 100) (hz : sz ≤ 12) (hc : ∀ i, i < sz → zOkC (cs i)) (hs : ∀ i : Nat, i < sz → 0 ≤ su i ∧ su i ≤ 20) :
    zMet m_Ni_pairsAgainst [.inr (.inr 0), .inl g] (wNi su cs sz) (fun v w => ((zPaid su cs sz g ∧ v = some (.inl (zPrA (zBtw cs sz g) 9 : Int))) ∨ (¬ zPaid su cs sz g ∧ v = some (.inl 0))) ∧ w = wNi su cs sz) := by
  refine zMet.of (own := RX1) rfl (by decide +kernel) tk_Ni_pairsAgainst fok_Ni cok_Ni (Nat.le_of_ble_eq_true rfl) (fun G hG => ?_)
  refine hG.1 [] 80 _ _ _ _ ?_
  refine hG.2.1 (c_Ni_alwaysPaid (g := g) hg hz hc hs) yv_Ni_alwaysPaid lk_Ni_41 (by decide +kernel) rfl rfl (List.range' 0 39) (by decide +kernel) ni_id rfl rfl (Nat.le_of_ble_eq_true rfl) (fun v w2 hv hl2 => ?_)
  rw [hv.2, ni_idb]
  have hv := hv.1
  rcases hv with ⟨hc1, rfl⟩ | ⟨hc1, rfl⟩
  · have hgi : ∀ i, i < sz → g < (cs i).2.2.1 := fun i hi => zSh_has (hc1.2 i hi)
    refine hG.1 [12] 80 _ _ _ _ ?_
    refine ⟨by omega, fun h1 => absurd h1 (by omega), fun h1 => ?_⟩
    refine z_up0 (n := 9) (P := fun a : Nat => G 12 [(0, .inr (.inr 0)), (1, .inl (g : Int)), (2, .inl (zPrA (zBtw cs sz g) a : Int)), (3, .inl (a : Int))] [] (wNi su cs sz)) ?_ (fun a ha ih => ?_)
    · refine hG.1 [] 80 _ _ _ _ ?_
      refine ⟨by omega, fun h2 => ?_, fun h2 => absurd h2 (by omega)⟩
      exact ⟨trivial, Or.inl ⟨hc1, rfl⟩, rfl⟩
    · refine hG.1 [23] 80 _ _ _ _ ?_
      refine ⟨by omega, fun h2 => absurd h2 (by omega), fun h2 => ?_⟩
      have inner : ∀ b, b ≤ 9 → G 23 [(0, .inr (.inr 0)), (1, .inl (g : Int)), (2, .inl ((zPrA (zBtw cs sz g) a + zPrB (zBtw cs sz g) a b : Nat) : Int)), (3, .inl (a : Int)), (4, .inl (b : Int))] [] (wNi su cs sz) ∨ b ≤ a := by
        refine z_up (P := fun b => G 23 [(0, .inr (.inr 0)), (1, .inl (g : Int)), (2, .inl ((zPrA (zBtw cs sz g) a + zPrB (zBtw cs sz g) a b : Nat) : Int)), (3, .inl (a : Int)), (4, .inl (b : Int))] [] (wNi su cs sz) ∨ b ≤ a) ?_ (fun b hb ihb => ?_)
        · refine Or.inl ?_
          refine hG.1 [12] 80 _ _ _ _ ?_
          refine ⟨by omega, fun h3 => ?_, fun h3 => absurd h3 (by omega)⟩
          exact hG.2.2.2.2.1 (fun q hq => List.mem_append_left _ hq) ih
        · rcases Nat.lt_or_ge a b with hab | hab
          · refine Or.inl ?_
            have ihb := ihb.resolve_right (by omega)
            have e : zPrB (zBtw cs sz g) a (b + 1) = zPrB (zBtw cs sz g) a b + @ite _ (a < b ∧ zBtw cs sz g a b) (Classical.propDecidable _) 1 0 := rfl
            refine hG.1 [23] 80 _ _ _ _ ?_
            refine ⟨by omega, fun h3 => absurd h3 (by omega), fun h3 => ?_⟩
            refine hG.2.1 (c_Ni_alwaysBetween (g := g) (a := a) (b := b) hgi (by omega) (by omega) hz hc) yv_Ni_alwaysBetween lk_Ni_44 (by decide +kernel) rfl rfl (List.range' 0 39) (by decide +kernel) ni_id rfl rfl (Nat.le_of_ble_eq_true rfl) (fun v w2 hv hl2 => ?_)
            rw [hv.2, ni_idb]
            have hv := hv.1
            rcases hv with ⟨hc2, rfl⟩ | ⟨hc2, rfl⟩
            · rw [e, if_pos ⟨hab, hc2⟩] at ihb
              refine hG.1 [23] 80 _ _ _ _ ?_
              exact ⟨by omega, fun h4 => absurd h4 (by omega), fun h4 => ihb⟩
            · rw [e, if_neg (fun z => hc2 z.2)] at ihb
              refine hG.1 [23] 80 _ _ _ _ ?_
              exact ⟨by omega, fun h4 => ihb, fun h4 => absurd rfl h4⟩
          · exact Or.inr hab
      have h5 := (inner (a + 1) (by omega)).resolve_right (by omega)
      rw [zPrB_0 _ a (a + 1) (by omega)] at h5
      exact h5
  · refine hG.1 [] 80 _ _ _ _ ?_
    refine ⟨by omega, fun h1 => ?_, fun h1 => absurd rfl h1⟩
    exact ⟨trivial, Or.inr ⟨hc1, rfl⟩, rfl⟩
theorem c_Ni_firstPairAgainst {g : Nat} (hg : g < 100) (hz : sz ≤ 12) (hc : ∀ i, i < sz → zOkC (cs i)) (hs : ∀ i : Nat, i < sz → 0 ≤ su i ∧ su i ≤ 20) :
    zMet m_Ni_firstPairAgainst [.inr (.inr 0), .inl g] (wNi su cs sz) (fun v w => ((zPaid su cs sz g ∧ ∃ r, v = some (.inl r) ∧ zFirst (zBtw cs sz g) 9 r) ∨ (¬ zPaid su cs sz g ∧ v = some (.inl (-1)))) ∧ w = wNi su cs sz) := by
  refine zMet.of (own := RX1) rfl (by decide +kernel) tk_Ni_firstPairAgainst fok_Ni cok_Ni (Nat.le_of_ble_eq_true rfl) (fun G hG => ?_)
  refine hG.1 [] 80 _ _ _ _ ?_
  refine hG.2.1 (c_Ni_alwaysPaid (g := g) hg hz hc hs) yv_Ni_alwaysPaid lk_Ni_41 (by decide +kernel) rfl rfl (List.range' 0 39) (by decide +kernel) ni_id rfl rfl (Nat.le_of_ble_eq_true rfl) (fun v w2 hv hl2 => ?_)
  rw [hv.2, ni_idb]
  have hv := hv.1
  rcases hv with ⟨hc1, rfl⟩ | ⟨hc1, rfl⟩
  · have hgi : ∀ i, i < sz → g < (cs i).2.2.1 := fun i hi => zSh_has (hc1.2 i hi)
    refine hG.1 [12] 80 _ _ _ _ ?_
    refine ⟨by omega, fun h1 => ?_, fun h1 => absurd h1 (by omega)⟩
    suffices L : ∀ a, a ≤ 9 → ((∀ a' b' : Nat, a' < b' → b' < 9 → a' < a → ¬ zBtw cs sz g a' b') → G 12 [(0, .inr (.inr 0)), (1, .inl (g : Int)), (2, .inl (a : Int))] [] (wNi su cs sz)) from L 0 (by omega) (fun a' b' _ _ h => by omega)
    refine z_up (fun hb => ?_) (fun a ha ih hb => ?_)
    · refine hG.1 [] 80 _ _ _ _ ?_
      refine ⟨by omega, fun h2 => ?_, fun h2 => absurd h2 (by omega)⟩
      exact ⟨trivial, Or.inl ⟨hc1, -1, rfl, Or.inl ⟨rfl, fun a' b' h3 h4 => hb a' b' h3 h4 (by omega)⟩⟩, rfl⟩
    · refine hG.1 [22] 80 _ _ _ _ ?_
      refine ⟨by omega, fun h2 => absurd h2 (by omega), fun h2 => ?_⟩
      suffices L : ∀ b, b ≤ 9 → (a < b → (∀ b' : Nat, a < b' → b' < b → ¬ zBtw cs sz g a b') → G 22 [(0, .inr (.inr 0)), (1, .inl (g : Int)), (2, .inl (a : Int)), (3, .inl (b : Int))] [] (wNi su cs sz)) from L (a + 1) (by omega) (by omega) (fun b' h3 h4 => by omega)
      refine z_up (fun hab hbb => ?_) (fun b hb2 ihb hab hbb => ?_)
      · refine hG.1 [12] 80 _ _ _ _ ?_
        refine ⟨by omega, fun h3 => ?_, fun h3 => absurd h3 (by omega)⟩
        exact hG.2.2.2.2.1 (fun q hq => List.mem_append_left _ hq) (ih (fun a' b' h4 h5 h6 => by
          rcases Nat.lt_succ_iff_lt_or_eq.mp h6 with h | rfl
          · exact hb a' b' h4 h5 h
          · exact hbb b' h4 h5))
      · refine hG.1 [22] 80 _ _ _ _ ?_
        refine ⟨by omega, fun h3 => absurd h3 (by omega), fun h3 => ?_⟩
        refine hG.2.1 (c_Ni_alwaysBetween (g := g) (a := a) (b := b) hgi (by omega) (by omega) hz hc) yv_Ni_alwaysBetween lk_Ni_44 (by decide +kernel) rfl rfl (List.range' 0 39) (by decide +kernel) ni_id rfl rfl (Nat.le_of_ble_eq_true rfl) (fun v w2 hv hl2 => ?_)
        rw [hv.2, ni_idb]
        have hv := hv.1
        rcases hv with ⟨hc2, rfl⟩ | ⟨hc2, rfl⟩
        · refine hG.1 [22] 80 _ _ _ _ ?_
          refine ⟨by omega, fun h4 => absurd h4 (by omega), fun h4 => ?_⟩
          refine ⟨trivial, Or.inl ⟨hc1, _, rfl, Or.inr ⟨a, b, hab, hb2, hc2, rfl, fun a' b' h5 h6 h7 => ?_⟩⟩, rfl⟩
          rcases h7 with h7 | ⟨rfl, h7⟩
          · exact hb a' b' h5 h6 h7
          · exact hbb b' h5 h7
        · refine hG.1 [22] 80 _ _ _ _ ?_
          refine ⟨by omega, fun h4 => ?_, fun h4 => absurd rfl h4⟩
          exact ihb (by omega) (fun b' h5 h6 => by
            rcases Nat.lt_succ_iff_lt_or_eq.mp h6 with h | rfl
            · exact hbb b' h5 h
            · exact hc2)
  · refine hG.1 [] 80 _ _ _ _ ?_
    refine ⟨by omega, fun h1 => absurd rfl h1, fun h1 => ?_⟩
    exact ⟨trivial, Or.inr ⟨hc1, rfl⟩, rfl⟩
def zMx (f g : Int → Int) (i : Nat) : Int → Int := fun j => if 0 ≤ j ∧ j < (i : Int) then f j else g j
def zMxC (cs cs' : Nat → zCD) (i : Nat) : Nat → zCD := fun k => if k < i then zCpC (cs k) (cs' k) else cs k
theorem zMx_put (f g : Int → Int) (i : Nat) : z_u (zMx f g i) i (f i) = zMx f g (i + 1) := by
  funext j
  unfold z_u zMx
  by_cases h : j = (i : Int)
  · subst h; rw [if_pos rfl, if_pos (by omega)]
  · rw [if_neg h]
    by_cases h2 : 0 ≤ j ∧ j < (i : Int)
    · rw [if_pos h2, if_pos (by omega)]
    · rw [if_neg h2, if_neg (by omega)]
theorem zMxC_put (cs cs' : Nat → zCD) (i : Nat) : z_un (zMxC cs cs' i) i (zCpC (zMxC cs cs' i i) (cs' i)) = zMxC cs cs' (i + 1) := by
  funext k
  unfold z_un zMxC
  by_cases h : k = i
  · subst h; rw [if_pos rfl, if_neg (Nat.lt_irrefl k), if_pos (Nat.lt_succ_self k)]
  · rw [if_neg h]
    by_cases h2 : k < i
    · rw [if_pos h2, if_pos (by omega)]
    · rw [if_neg h2, if_neg (by omega)]
theorem c_Ni_copyFrom {su' : Int → Int} {cs' : Nat → zCD} {sz' : Nat} (hz : sz' ≤ 12) :
    zMet m_Ni_copyFrom [.inr (.inr 0), .inr (.inr 39)] (wNi2 su cs sz su' cs' sz') (fun v w => v = none ∧ w = wNi2 (zMx su' su sz') (zMxC cs cs' sz') sz' su' cs' sz') := by
  refine zMet.of (own := RX1) rfl (by decide +kernel) tk_Ni_copyFrom fok_Ni cok_Ni (Nat.le_of_ble_eq_true rfl) (fun G hG => ?_)
  refine hG.1 [10] 80 _ _ _ _ ?_
  suffices L : G 10 [(0, .inr (.inr 0)), (1, .inr (.inr 39)), (2, .inl ((0 : Nat) : Int))] [] (wNi2 (zMx su' su 0) (zMxC cs cs' 0) sz' su' cs' sz') by
    have e1 : zMx su' su 0 = su := by funext j; unfold zMx; rw [if_neg (by omega)]
    have e2 : zMxC cs cs' 0 = cs := by funext k; unfold zMxC; rw [if_neg (by omega)]
    rw [e1, e2] at L; exact L
  refine z_up0 (n := sz') (P := fun i : Nat => G 10 [(0, .inr (.inr 0)), (1, .inr (.inr 39)), (2, .inl (i : Int))] [] (wNi2 (zMx su' su i) (zMxC cs cs' i) sz' su' cs' sz')) ?_ (fun i hi ih => ?_)
  · refine hG.1 [] 80 _ _ _ _ ?_
    refine ⟨by omega, fun h2 => ?_, fun h2 => absurd h2 (by omega)⟩
    exact ⟨trivial, rfl, rfl⟩
  · refine hG.1 [10] 80 _ _ _ _ ?_
    refine ⟨by omega, fun h2 => absurd h2 (by omega), fun h2 => ?_⟩
    refine ⟨by omega, by omega, by omega, by omega, ?_⟩
    refine hG.2.1 (c_Co_copyFrom (ks := (zMxC cs cs' i i).1) (ss := (zMxC cs cs' i i).2.1) (n := (zMxC cs cs' i i).2.2.1) (who := (zMxC cs cs' i i).2.2.2.1) (ties := (zMxC cs cs' i i).2.2.2.2) (ks' := (cs' i).1) (ss' := (cs' i).2.1) (n' := (cs' i).2.2.1) (who' := (cs' i).2.2.2.1) (ties' := (cs' i).2.2.2.2)) yv_Co_copyFrom lk_Ni_26 (by decide +kernel) rfl rfl [3 + 3 * i, 3 + 3 * i + 1, 3 + 3 * i + 2, 42 + 3 * i, 42 + 3 * i + 1, 42 + 3 * i + 2] (z_nd6c (by omega)) (ni_pickC (su := z_u (zMx su' su i) i (su' i)) i (by omega)) rfl rfl (Nat.le_of_ble_eq_true rfl) (fun v w2 hv hl2 => ?_)
    obtain ⟨rfl, rfl⟩ := hv
    have e := ni_putC (su := z_u (zMx su' su i) i (su' i)) (cs := zMxC cs cs' i) (sz := sz') (su' := su') (cs' := cs') (sz' := sz') (d := zCpC (zMxC cs cs' i i) (cs' i)) i (by omega)
    suffices L : G 45 [(0, .inr (.inr 0)), (1, .inr (.inr 39)), (2, .inl (i : Int))] [] (wNi2 (z_u (zMx su' su i) i (su' i)) (z_un (zMxC cs cs' i) i (zCpC (zMxC cs cs' i i) (cs' i))) sz' su' cs' sz') by
      rw [← e] at L; exact L
    rw [zMx_put, zMxC_put]
    refine hG.1 [10] 80 _ _ _ _ ?_
    exact ih
end Ni
