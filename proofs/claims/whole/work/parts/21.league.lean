/-! TABLE: leagues, shunning -/
section Lg
variable {w ks ss : Int → Int} {n : Nat} {who ties : Int}
theorem c_Ta_putPair {a b p : Nat} (ha : a < n) (hb : b < n) (hp : p < 441) (hn : n ≤ 9) :
    zMet m_Ta_putPair [.inr (.inr 0), .inl a, .inl b, .inl p] (wTa w ks ss n who ties) (fun v wd => v = none ∧ wd = wTa w ks (z_u (z_u ss a ((p / 21 : Nat) : Int)) b ((p % 21 : Nat) : Int)) n who ties) := by
  refine zMet.of (own := RX4) rfl (by decide +kernel) tk_Ta_putPair fok_Ta cok_Ta (Nat.le_of_ble_eq_true rfl) (fun G hG => ?_)
  refine hG.1 [] 80 _ _ _ _ ?_
  refine ⟨by omega, ?_⟩
  refine hG.2.1 (c_Co_putSlip (ss := ss) (x := ((p / 21 : Nat) : Int)) ha hn) yv_Co_putSlip lk_Ta_62 (by decide +kernel) rfl rfl [3, 4, 5] (by decide +kernel) rfl rfl rfl (Nat.le_of_ble_eq_true rfl) (fun v w2 hv hl2 => ?_)
  obtain ⟨rfl, rfl⟩ := hv
  change G _ _ _ (wTa w ks (z_u ss a ((p / 21 : Nat) : Int)) n who ties)
  refine hG.1 [] 80 _ _ _ _ ?_
  refine ⟨by omega, ?_⟩
  refine hG.2.1 (c_Co_putSlip (ss := z_u ss a ((p / 21 : Nat) : Int)) (x := ((p % 21 : Nat) : Int)) hb hn) yv_Co_putSlip lk_Ta_62 (by decide +kernel) rfl rfl [3, 4, 5] (by decide +kernel) rfl rfl rfl (Nat.le_of_ble_eq_true rfl) (fun v w2 hv hl2 => ?_)
  obtain ⟨rfl, rfl⟩ := hv
  change G _ _ _ (wTa w ks (z_u (z_u ss a ((p / 21 : Nat) : Int)) b ((p % 21 : Nat) : Int)) n who ties)
  refine hG.1 [] 80 _ _ _ _ ?_
  exact ⟨trivial, rfl, rfl⟩
theorem zOkS_p {a b p : Nat} (hp : p < 441) (hS : zOkS ss n) : zOkS (z_u (z_u ss a ((p / 21 : Nat) : Int)) b ((p % 21 : Nat) : Int)) n := zOkS_u (zOkS_u hS (by omega)) (by omega)
theorem zPairBack {a b : Nat} {s : Int → Int} (hs : ∀ x y : Int, z_u (z_u s a x) b y = z_u (z_u ss a x) b y) : z_u (z_u s a (ss a)) b (ss b) = ss := by
  rw [hs, z_u_self, z_u_self]
theorem c_Ta_burdenByPair {a b c p : Nat} (ha : a < n) (hb : b < n) (hc : c < n) (hp : p < 441) (hL : zOkL n who ties) (hS : zOkS ss n) (hW : zOkW w) (hab : a ≠ b) :
    zMet m_Ta_burdenByPair [.inr (.inr 0), .inl a, .inl b, .inl c, .inl p] (wTa w ks ss n who ties) (fun v wd => v = some (.inr (.inl (zFp w ss n who ties a b c p))) ∧ wd = wTa w ks ss n who ties) := by
  have hn := hL.1
  refine zMet.of (own := RX4) rfl (by decide +kernel) tk_Ta_burdenByPair fok_Ta cok_Ta (Nat.le_of_ble_eq_true rfl) (fun G hG => ?_)
  refine hG.1 [] 80 _ _ _ _ ?_
  refine hG.2.1 (c_Co_slipOf (ss := ss) ha hn) yv_Co_slipOf lk_Ta_59 (by decide +kernel) rfl rfl [3, 4, 5] (by decide +kernel) rfl rfl rfl (Nat.le_of_ble_eq_true rfl) (fun v w2 hv hl2 => ?_)
  obtain ⟨rfl, rfl⟩ := hv
  change G _ _ _ (wTa w ks ss n who ties)
  refine hG.1 [] 80 _ _ _ _ ?_
  refine hG.2.1 (c_Co_slipOf (ss := ss) hb hn) yv_Co_slipOf lk_Ta_59 (by decide +kernel) rfl rfl [3, 4, 5] (by decide +kernel) rfl rfl rfl (Nat.le_of_ble_eq_true rfl) (fun v w2 hv hl2 => ?_)
  obtain ⟨rfl, rfl⟩ := hv
  change G _ _ _ (wTa w ks ss n who ties)
  refine hG.1 [] 80 _ _ _ _ ?_
  refine hG.2.1 (c_Ta_putPair (ss := ss) ha hb hp hn) yv_Ta_putPair lk_Ta_93 (by decide +kernel) rfl rfl [0, 1, 2, 3, 4, 5] (by decide +kernel) rfl rfl rfl (Nat.le_of_ble_eq_true rfl) (fun v w2 hv hl2 => ?_)
  obtain ⟨rfl, rfl⟩ := hv
  change G _ _ _ (wTa w ks (z_u (z_u ss a ((p / 21 : Nat) : Int)) b ((p % 21 : Nat) : Int)) n who ties)
  refine hG.1 [] 80 _ _ _ _ ?_
  refine hG.2.1 (c_Ta_burden (ss := z_u (z_u ss a ((p / 21 : Nat) : Int)) b ((p % 21 : Nat) : Int)) hc hL (zOkS_p hp hS) hW) yv_Ta_burden lk_Ta_66 (by decide +kernel) rfl rfl [0, 1, 2, 3, 4, 5] (by decide +kernel) rfl rfl rfl (Nat.le_of_ble_eq_true rfl) (fun v w2 hv hl2 => ?_)
  obtain ⟨rfl, rfl⟩ := hv
  change G _ _ _ (wTa w ks (z_u (z_u ss a ((p / 21 : Nat) : Int)) b ((p % 21 : Nat) : Int)) n who ties)
  refine hG.1 [] 80 _ _ _ _ ?_
  refine hG.2.1 (c_Co_putSlip (ss := z_u (z_u ss a ((p / 21 : Nat) : Int)) b ((p % 21 : Nat) : Int)) (x := ss a) ha hn) yv_Co_putSlip lk_Ta_62 (by decide +kernel) rfl rfl [3, 4, 5] (by decide +kernel) rfl rfl rfl (Nat.le_of_ble_eq_true rfl) (fun v w2 hv hl2 => ?_)
  obtain ⟨rfl, rfl⟩ := hv
  change G _ _ _ (wTa w ks (z_u (z_u (z_u ss a ((p / 21 : Nat) : Int)) b ((p % 21 : Nat) : Int)) a (ss a)) n who ties)
  refine hG.1 [] 80 _ _ _ _ ?_
  refine hG.2.1 (c_Co_putSlip (ss := z_u (z_u (z_u ss a ((p / 21 : Nat) : Int)) b ((p % 21 : Nat) : Int)) a (ss a)) (x := ss b) hb hn) yv_Co_putSlip lk_Ta_62 (by decide +kernel) rfl rfl [3, 4, 5] (by decide +kernel) rfl rfl rfl (Nat.le_of_ble_eq_true rfl) (fun v w2 hv hl2 => ?_)
  obtain ⟨rfl, rfl⟩ := hv
  change G _ _ _ (wTa w ks (z_u (z_u (z_u (z_u ss a ((p / 21 : Nat) : Int)) b ((p % 21 : Nat) : Int)) a (ss a)) b (ss b)) n who ties)
  have e : z_u (z_u (z_u (z_u ss a ((p / 21 : Nat) : Int)) b ((p % 21 : Nat) : Int)) a (ss a)) b (ss b) = ss := by
    refine zPairBack (fun x y => ?_)
    rw [z_u_comm _ (show ((b : Nat) : Int) ≠ a by omega), z_u_u, z_u_u]
  rw [e]
  refine hG.1 [] 80 _ _ _ _ ?_
  exact ⟨trivial, rfl, rfl⟩
theorem zHp_lt {f : Nat → Int} {en : Int} : ∀ (d p h : Nat) (m : Int), p + d = 441 → h < 441 → (zHp f en d p h m).1 < 441
  | 0, p, h, m, _, hh => hh
  | d + 1, p, h, m, hp, hh => by
    unfold zHp
    split
    · split
      · exact zHp_lt d (p + 1) p _ (by omega) (by omega)
      · exact zHp_lt d (p + 1) h m (by omega) hh
    · exact hh
theorem c_Ta_hardestPair {a b c : Nat} {en : Int} (ha : a < n) (hb : b < n) (hc : c < n) (hL : zOkL n who ties) (hS : zOkS ss n) (hW : zOkW w) (hab : a ≠ b) (hen : 0 ≤ en ∧ en ≤ 1000000000) :
    zMet m_Ta_hardestPair [.inr (.inr 0), .inl a, .inl b, .inl c, .inr (.inl en)] (wTa w ks ss n who ties) (fun v wd => v = some (.inl ((zHp (zFp w ss n who ties a b c) en 441 0 0 (-1)).1 : Int)) ∧ wd = wTa w ks ss n who ties) := by
  have hn := hL.1
  have hwb := zWei21 hW
  have hf : ∀ p, 0 ≤ zFp w ss n who ties a b c p ∧ zFp w ss n who ties a b c p ≤ 2520 * zWeiN w 21 := fun p => zBu_in hW
  refine zMet.of (own := RX4) rfl (by decide +kernel) tk_Ta_hardestPair fok_Ta cok_Ta (Nat.le_of_ble_eq_true rfl) (fun G hG => ?_)
  refine hG.1 [] 80 _ _ _ _ ?_
  refine hG.2.1 (c_Co_slipOf (ss := ss) ha hn) yv_Co_slipOf lk_Ta_59 (by decide +kernel) rfl rfl [3, 4, 5] (by decide +kernel) rfl rfl rfl (Nat.le_of_ble_eq_true rfl) (fun v w2 hv hl2 => ?_)
  obtain ⟨rfl, rfl⟩ := hv
  change G _ _ _ (wTa w ks ss n who ties)
  refine hG.1 [] 80 _ _ _ _ ?_
  refine hG.2.1 (c_Co_slipOf (ss := ss) hb hn) yv_Co_slipOf lk_Ta_59 (by decide +kernel) rfl rfl [3, 4, 5] (by decide +kernel) rfl rfl rfl (Nat.le_of_ble_eq_true rfl) (fun v w2 hv hl2 => ?_)
  obtain ⟨rfl, rfl⟩ := hv
  change G _ _ _ (wTa w ks ss n who ties)
  refine hG.1 [31] 80 _ _ _ _ ?_
  -- behind the loop
  have out : ∀ (s' : Int → Int) (h i : Nat) (m : Int), (∀ x y : Int, z_u (z_u s' a x) b y = z_u (z_u ss a x) b y) → zHp (zFp w ss n who ties a b c) en 441 0 0 (-1) = (h, m) →
      G 84 [(0, .inr (.inr 0)), (1, .inl (a : Int)), (2, .inl (b : Int)), (3, .inl (c : Int)), (4, .inr (.inl en)), (6, .inl (ss a)), (7, .inl (ss b)), (8, .inl (h : Int)), (9, .inr (.inl m)), (11, .inl (i : Int))] [] (wTa w ks s' n who ties) := by
    intro s' h i m hs' he
    refine hG.1 [] 80 _ _ _ _ ?_
    refine hG.2.1 (c_Co_putSlip (ss := s') (x := ss a) ha hn) yv_Co_putSlip lk_Ta_62 (by decide +kernel) rfl rfl [3, 4, 5] (by decide +kernel) rfl rfl rfl (Nat.le_of_ble_eq_true rfl) (fun v w2 hv hl2 => ?_)
    obtain ⟨rfl, rfl⟩ := hv
    change G _ _ _ (wTa w ks (z_u s' a (ss a)) n who ties)
    refine hG.1 [] 80 _ _ _ _ ?_
    refine hG.2.1 (c_Co_putSlip (ss := z_u s' a (ss a)) (x := ss b) hb hn) yv_Co_putSlip lk_Ta_62 (by decide +kernel) rfl rfl [3, 4, 5] (by decide +kernel) rfl rfl rfl (Nat.le_of_ble_eq_true rfl) (fun v w2 hv hl2 => ?_)
    obtain ⟨rfl, rfl⟩ := hv
    change G _ _ _ (wTa w ks (z_u (z_u s' a (ss a)) b (ss b)) n who ties)
    rw [zPairBack hs']
    refine hG.1 [] 80 _ _ _ _ ?_
    exact ⟨trivial, by rw [he], rfl⟩
  have key : ∀ d i : Nat, i + d = 441 → ∀ (h : Nat) (m : Int) (s' : Int → Int), (∀ x y : Int, z_u (z_u s' a x) b y = z_u (z_u ss a x) b y) → h < 441 → (-1 ≤ m ∧ m ≤ 2520 * zWeiN w 21) → zHp (zFp w ss n who ties a b c) en d i h m = zHp (zFp w ss n who ties a b c) en 441 0 0 (-1) →
      G 31 [(0, .inr (.inr 0)), (1, .inl (a : Int)), (2, .inl (b : Int)), (3, .inl (c : Int)), (4, .inr (.inl en)), (6, .inl (ss a)), (7, .inl (ss b)), (8, .inl (h : Int)), (9, .inr (.inl m)), (11, .inl (i : Int))] [] (wTa w ks s' n who ties) := by
    intro d
    induction d with
    | zero =>
      intro i hi h m s' hs' hh hm he
      refine hG.1 [84] 80 _ _ _ _ ?_
      refine ⟨by omega, fun h1 => ?_, fun h1 => absurd h1 (by omega)⟩
      exact out s' h i m hs' he.symm
    | succ d ih =>
      intro i hi h m s' hs' hh hm he
      have he2 : (if m < en then (if m < zFp w ss n who ties a b c i then zHp (zFp w ss n who ties a b c) en d (i + 1) i (zFp w ss n who ties a b c i) else zHp (zFp w ss n who ties a b c) en d (i + 1) h m) else (h, m)) = zHp (zFp w ss n who ties a b c) en 441 0 0 (-1) := he
      have hfi := hf i
      refine hG.1 [84] 80 _ _ _ _ ?_
      refine ⟨by omega, fun h1 => absurd h1 (by omega), fun h1 => ?_⟩
      refine ⟨by omega, fun h2 => ?_, fun h2 => ?_⟩
      · rw [if_neg (by omega)] at he2
        exact out s' h i m hs' he2.symm
      · rw [if_pos h2] at he2
        refine hG.2.1 (c_Ta_putPair (ss := s') (p := i) ha hb (by omega) hn) yv_Ta_putPair lk_Ta_93 (by decide +kernel) rfl rfl [0, 1, 2, 3, 4, 5] (by decide +kernel) rfl rfl rfl (Nat.le_of_ble_eq_true rfl) (fun v w2 hv hl2 => ?_)
        obtain ⟨rfl, rfl⟩ := hv
        change G _ _ _ (wTa w ks (z_u (z_u s' a ((i / 21 : Nat) : Int)) b ((i % 21 : Nat) : Int)) n who ties)
        rw [hs']
        refine hG.1 [] 80 _ _ _ _ ?_
        refine hG.2.1 (c_Ta_burden (ss := z_u (z_u ss a ((i / 21 : Nat) : Int)) b ((i % 21 : Nat) : Int)) hc hL (zOkS_p (by omega) hS) hW) yv_Ta_burden lk_Ta_66 (by decide +kernel) rfl rfl [0, 1, 2, 3, 4, 5] (by decide +kernel) rfl rfl rfl (Nat.le_of_ble_eq_true rfl) (fun v w2 hv hl2 => ?_)
        obtain ⟨rfl, rfl⟩ := hv
        change G _ _ _ (wTa w ks (z_u (z_u ss a ((i / 21 : Nat) : Int)) b ((i % 21 : Nat) : Int)) n who ties)
        have back : zBu w (z_u (z_u ss a ((i / 21 : Nat) : Int)) b ((i % 21 : Nat) : Int)) n who ties c = zFp w ss n who ties a b c i := rfl
        rw [back]
        have hs2 : ∀ x y : Int, z_u (z_u (z_u (z_u ss a ((i / 21 : Nat) : Int)) b ((i % 21 : Nat) : Int)) a x) b y = z_u (z_u ss a x) b y := fun x y => by
          rw [z_u_comm _ (show ((b : Nat) : Int) ≠ a by omega), z_u_u, z_u_u]
        refine hG.1 [31] 80 _ _ _ _ ?_
        refine ⟨by omega, fun h3 => ?_, fun h3 => ?_⟩
        · rw [if_neg (by omega)] at he2
          exact hG.2.2.2.2.1 (fun q hq => List.mem_append_left _ hq) (ih (i + 1) (by omega) h m _ hs2 hh hm he2)
        · rw [if_pos h3] at he2
          exact hG.2.2.2.2.1 (fun q hq => List.mem_append_left _ hq) (ih (i + 1) (by omega) i _ _ hs2 (by omega) (by omega) he2)
  exact key 441 0 rfl 0 (-1) ss (fun _ _ => rfl) (by omega) (by omega) rfl
theorem c_Ta_safestSlip {a b c : Nat} (ha : a < n) (hb : b < n) (hc : c < n) (hL : zOkL n who ties) (hS : zOkS ss n) (hW : zOkW w) (hab : a ≠ b) :
    zMet m_Ta_safestSlip [.inr (.inr 0), .inl a, .inl b, .inl c] (wTa w ks ss n who ties) (fun v wd => v = some (.inl ((zSf w ss n who ties a b c 21).1 : Int)) ∧ wd = wTa w ks ss n who ties) := by
  have hn := hL.1
  have hwb := zWei21 hW
  have hle : ∀ k, 0 ≤ (zSf w ss n who ties a b c k).2 ∧ (zSf w ss n who ties a b c k).2 ≤ 2520 * zWeiN w 21 + 1 := by
    intro k
    induction k with
    | zero => show 0 ≤ 2520 * zWeiN w 21 + 1 ∧ 2520 * zWeiN w 21 + 1 ≤ _; omega
    | succ k ih =>
      unfold zSf
      split
      · have := zBu_in (w := w) (ss := z_u (z_u (z_u ss c k) a (((zHp (zFp w (z_u ss c k) n who ties a b c) (zSf w ss n who ties a b c k).2 441 0 0 (-1)).1 / 21 : Nat) : Int)) b (((zHp (zFp w (z_u ss c k) n who ties a b c) (zSf w ss n who ties a b c k).2 441 0 0 (-1)).1 % 21 : Nat) : Int)) (n := n) (who := who) (ties := ties) (g := c) hW
        unfold zFp at this ⊢
        dsimp only at this ⊢
        omega
      · exact ih
  refine zMet.of (own := RX4) rfl (by decide +kernel) tk_Ta_safestSlip fok_Ta cok_Ta (Nat.le_of_ble_eq_true rfl) (fun G hG => ?_)
  refine hG.1 [] 80 _ _ _ _ ?_
  refine hG.2.1 (c_Co_slipOf (ss := ss) hc hn) yv_Co_slipOf lk_Ta_59 (by decide +kernel) rfl rfl [3, 4, 5] (by decide +kernel) rfl rfl rfl (Nat.le_of_ble_eq_true rfl) (fun v w2 hv hl2 => ?_)
  obtain ⟨rfl, rfl⟩ := hv
  change G _ _ _ (wTa w ks ss n who ties)
  refine hG.1 [] 80 _ _ _ _ ?_
  refine hG.2.1 (c_Ta_wholeBurden (ss := ss) hW) yv_Ta_wholeBurden lk_Ta_70 (by decide +kernel) rfl rfl [0, 1, 2, 3, 4, 5] (by decide +kernel) rfl rfl rfl (Nat.le_of_ble_eq_true rfl) (fun v w2 hv hl2 => ?_)
  obtain ⟨rfl, rfl⟩ := hv
  change G _ _ _ (wTa w ks ss n who ties)
  refine hG.1 [24] 80 _ _ _ _ ?_
  suffices L : ∀ i, i ≤ 21 → ∀ s' : Int → Int, (∀ x, z_u s' c x = z_u ss c x) → G 24 [(0, .inr (.inr 0)), (1, .inl (a : Int)), (2, .inl (b : Int)), (3, .inl (c : Int)), (4, .inl (ss c)), (5, .inl ((zSf w ss n who ties a b c i).1 : Int)), (6, .inr (.inl (zSf w ss n who ties a b c i).2)), (8, .inl (i : Int))] [] (wTa w ks s' n who ties) from L 0 (by omega) ss (fun _ => rfl)
  refine z_up (fun s' hs' => ?_) (fun i hi ih s' hs' => ?_)
  · refine hG.1 [] 80 _ _ _ _ ?_
    refine ⟨by omega, fun h1 => ?_, fun h1 => absurd h1 (by omega)⟩
    refine hG.2.1 (c_Co_putSlip (ss := s') (x := ss c) hc hn) yv_Co_putSlip lk_Ta_62 (by decide +kernel) rfl rfl [3, 4, 5] (by decide +kernel) rfl rfl rfl (Nat.le_of_ble_eq_true rfl) (fun v w2 hv hl2 => ?_)
    obtain ⟨rfl, rfl⟩ := hv
    change G _ _ _ (wTa w ks (z_u s' c (ss c)) n who ties)
    rw [hs', z_u_self]
    refine hG.1 [] 80 _ _ _ _ ?_
    exact ⟨trivial, rfl, rfl⟩
  · have e : zSf w ss n who ties a b c (i + 1) = if zFp w (z_u ss c i) n who ties a b c (zHp (zFp w (z_u ss c i) n who ties a b c) (zSf w ss n who ties a b c i).2 441 0 0 (-1)).1 < (zSf w ss n who ties a b c i).2 then (i, zFp w (z_u ss c i) n who ties a b c (zHp (zFp w (z_u ss c i) n who ties a b c) (zSf w ss n who ties a b c i).2 441 0 0 (-1)).1) else zSf w ss n who ties a b c i := rfl
    have hlei := hle i
    have hok2 : zOkS (z_u ss c i) n := zOkS_u hS (by omega)
    have ih := ih (z_u ss c i) (fun x => z_u_u ss c i x)
    generalize hH : (zHp (zFp w (z_u ss c i) n who ties a b c) (zSf w ss n who ties a b c i).2 441 0 0 (-1)).1 = hp at e
    have hhp : hp < 441 := by rw [← hH]; exact zHp_lt 441 0 0 (-1) rfl (by omega)
    have hfp : 0 ≤ zFp w (z_u ss c i) n who ties a b c hp ∧ zFp w (z_u ss c i) n who ties a b c hp ≤ 2520 * zWeiN w 21 := zBu_in hW
    refine hG.1 [24] 80 _ _ _ _ ?_
    refine ⟨by omega, fun h1 => absurd h1 (by omega), fun h1 => ?_⟩
    refine hG.2.1 (c_Co_putSlip (ss := s') (x := (i : Int)) hc hn) yv_Co_putSlip lk_Ta_62 (by decide +kernel) rfl rfl [3, 4, 5] (by decide +kernel) rfl rfl rfl (Nat.le_of_ble_eq_true rfl) (fun v w2 hv hl2 => ?_)
    obtain ⟨rfl, rfl⟩ := hv
    change G _ _ _ (wTa w ks (z_u s' c i) n who ties)
    rw [hs']
    refine hG.1 [24] 80 _ _ _ _ ?_
    refine hG.2.1 (c_Ta_hardestPair (ss := z_u ss c i) (en := (zSf w ss n who ties a b c i).2) ha hb hc hL hok2 hW hab (by omega)) yv_Ta_hardestPair lk_Ta_97 (by decide +kernel) rfl rfl [0, 1, 2, 3, 4, 5] (by decide +kernel) rfl rfl rfl (Nat.le_of_ble_eq_true rfl) (fun v w2 hv hl2 => ?_)
    obtain ⟨rfl, rfl⟩ := hv
    change G _ _ _ (wTa w ks (z_u ss c i) n who ties)
    rw [hH]
    refine hG.1 [24] 80 _ _ _ _ ?_
    refine hG.2.1 (c_Ta_burdenByPair (ss := z_u ss c i) (p := hp) ha hb hc hhp hL hok2 hW hab) yv_Ta_burdenByPair lk_Ta_101 (by decide +kernel) rfl rfl [0, 1, 2, 3, 4, 5] (by decide +kernel) rfl rfl rfl (Nat.le_of_ble_eq_true rfl) (fun v w2 hv hl2 => ?_)
    obtain ⟨rfl, rfl⟩ := hv
    change G _ _ _ (wTa w ks (z_u ss c i) n who ties)
    refine hG.1 [24] 80 _ _ _ _ ?_
    refine ⟨by omega, fun h2 => ?_, fun h2 => ?_⟩
    · rw [e, if_neg (by omega)] at ih
      exact hG.2.2.2.2.1 (fun q hq => List.mem_append_left _ hq) ih
    · rw [e, if_pos h2] at ih
      exact hG.2.2.2.2.1 (fun q hq => List.mem_append_left _ hq) ih
end Lg
