/-! FARTHESTPAYS: texts, sheets: the whole object -/
abbrev zShC (o : Nat) (s : zSD) : zW := [.inl (2, [.inr (.inr (o + 1)), .inl s.2.1, .inl s.2.2]), .inr (0, (24, .inr (.inl s.1)))]
abbrev zTs (b : Int → Int) (tn tp : Nat) (fl : Int) (rs : Int → Int) (rc : zCD) (sh : Nat → zSD) : zW := .inl (5, [.inr (.inr 92), .inl (tn : Int), .inl (tp : Int), .inl fl]) :: .inr (0, (80, .inl b)) :: .inl (3, [.inr (.inr 94)]) :: .inr (0, (21, .inl rs)) :: .inl (0, [.inr (.inr 96), .inr (.inr 97), .inl (rc.2.2.1 : Int), .inl rc.2.2.2.1, .inl rc.2.2.2.2]) :: .inr (0, (9, .inl rc.1)) :: .inr (0, (9, .inl rc.2.1)) :: .inr (1, (4, .inr (.inr (fun j => 99 + 2 * j.toNat)))) :: (zShC 99 (sh 0) ++ (zShC 101 (sh 1) ++ (zShC 103 (sh 2) ++ zShC 105 (sh 3))))
def z_us (sh : Nat → zSD) (i : Nat) (s : zSD) : Nat → zSD := fun k => if k = i then s else sh k
def zApp (x : Int) : Nat → (Int → Int) → Nat → (Int → Int)
  | 0, b, _ => b
  | k + 1, b, tn => zApp x k (z_u b tn (zByte x k)) (tn + 1)
def zPrn (x : Int) (k : Nat) : Prop := ∀ i : Nat, i < k → 32 ≤ zByte x i ∧ zByte x i ≤ 126
section Fw
variable {img : Int} {w ks ss : Int → Int} {n : Nat} {who ties : Int} {su : Int → Int} {cs : Nat → zCD} {sz : Nat} {w' ks' ss' : Int → Int} {n' : Nat} {who' ties' : Int} {su' : Int → Int} {cs' : Nat → zCD} {sz' : Nat} {b : Int → Int} {tn tp : Nat} {fl : Int} {rs : Int → Int} {rc : zCD} {sh : Nat → zSD}
theorem c_Fp_type {x y : Int} (hy : -2147483648 ≤ y ∧ y ≤ 2147483647) (ht : tn ≤ 80) :
    zMet m_Fp_type [.inr (.inr 0), .inr (.inl x), .inl y] (wFp img w ks ss n who ties su cs sz (zKs w' ks' ss' n' who' ties' su' cs' sz' (zTs b tn tp fl rs rc sh))) (fun v wd =>
      (((1 ≤ y ∧ y ≤ 8) ∧ zPrn x y.toNat) ∧ (tn : Int) ≤ 80 - y ∧ v = some (.inl ((tn + y.toNat : Nat) : Int)) ∧ wd = wFp img w ks ss n who ties su cs sz (zKs w' ks' ss' n' who' ties' su' cs' sz' (zTs (zApp x y.toNat b tn) (tn + y.toNat) tp fl rs rc sh))) ∨
      (((1 ≤ y ∧ y ≤ 8) ∧ zPrn x y.toNat) ∧ ¬ (tn : Int) ≤ 80 - y ∧ v = some (.inl (-3)) ∧ wd = wFp img w ks ss n who ties su cs sz (zKs w' ks' ss' n' who' ties' su' cs' sz' (zTs b tn tp fl rs rc sh))) ∨
      (¬ ((1 ≤ y ∧ y ≤ 8) ∧ zPrn x y.toNat) ∧ v = some (.inl (-1)) ∧ wd = wFp img w ks ss n who ties su cs sz (zKs w' ks' ss' n' who' ties' su' cs' sz' (zTs b tn tp fl rs rc sh)))) := by
  refine zMet.of (own := RX6) rfl (by decide +kernel) tk_Fp_type fok_Fp cok_Fp (Nat.le_of_ble_eq_true rfl) (fun G hG => ?_)
  refine hG.1 [21] 80 _ _ _ _ ?_
  refine ⟨by omega, fun h1 => ?_, fun h1 => ?_⟩
  · exact ⟨trivial, Or.inr (Or.inr ⟨fun z => by have := z.1; omega, rfl, rfl⟩)⟩
  · refine ⟨by omega, fun h2 => ?_, fun h2 => ?_⟩
    · exact ⟨trivial, Or.inr (Or.inr ⟨fun z => by have := z.1; omega, rfl, rfl⟩)⟩
    · obtain ⟨k, rfl⟩ := z_nat (show 0 ≤ y by omega)
      rw [Int.toNat_natCast]
      refine hG.2.2.1 (c_Fp_isPrintable (x := x) (k := k) (by omega)) ys_Fp_isPrintable (Or.inl lk_Fp_107) (by decide +kernel) rfl [] (by decide +kernel) rfl rfl rfl (Nat.le_of_ble_eq_true rfl) (fun v w2 hv hl2 => ?_)
      obtain ⟨⟨hc, rfl⟩ | ⟨hc, rfl⟩, rfl⟩ := hv
      · refine hG.1 [21] 80 _ _ _ _ ?_
        refine ⟨by omega, fun h3 => ?_, fun h3 => absurd h3 (by omega)⟩
        refine hG.1 [] 80 _ _ _ _ ?_
        refine hG.2.1 (c_Tp_size (b := b) (n := tn) (p := tp) (fl := fl)) yv_Tp_size lk_Fp_111 (by decide +kernel) rfl rfl [91, 92] (by decide +kernel) rfl rfl rfl (Nat.le_of_ble_eq_true rfl) (fun v w2 hv hl2 => ?_)
        obtain ⟨rfl, rfl⟩ := hv
        change G _ _ _ (wFp img w ks ss n who ties su cs sz (zKs w' ks' ss' n' who' ties' su' cs' sz' (zTs b tn tp fl rs rc sh)))
        refine hG.1 [43] 80 _ _ _ _ ?_
        refine ⟨by omega, fun h4 => ?_, fun h4 => ?_⟩
        · have key : ∀ j : Nat, j ≤ k → ∀ (b1 : Int → Int) (t1 : Nat), t1 + j = tn + k → zApp x j b1 t1 = zApp x k b tn → G 43 [(0, .inr (.inr 0)), (1, .inr (.inl x)), (3, .inl (k : Int)), (4, .inl ((j : Int) - 1))] [] (wFp img w ks ss n who ties su cs sz (zKs w' ks' ss' n' who' ties' su' cs' sz' (zTs b1 t1 tp fl rs rc sh))) := by
            intro j
            induction j with
            | zero =>
              intro hj b1 t1 h5 h6
              refine hG.1 [] 80 _ _ _ _ ?_
              refine ⟨by omega, fun h7 => ?_, fun h7 => absurd h7 (by omega)⟩
              refine hG.2.1 (c_Tp_size (b := b1) (n := t1) (p := tp) (fl := fl)) yv_Tp_size lk_Fp_111 (by decide +kernel) rfl rfl [91, 92] (by decide +kernel) rfl rfl rfl (Nat.le_of_ble_eq_true rfl) (fun v w2 hv hl2 => ?_)
              obtain ⟨rfl, rfl⟩ := hv
              change G _ _ _ (wFp img w ks ss n who ties su cs sz (zKs w' ks' ss' n' who' ties' su' cs' sz' (zTs b1 t1 tp fl rs rc sh)))
              refine hG.1 [] 80 _ _ _ _ ?_
              have h6 : b1 = zApp x k b tn := h6
              have h5 : t1 = tn + k := by omega
              exact ⟨trivial, Or.inl ⟨⟨by omega, hc⟩, by omega, by rw [h5, Int.toNat_natCast], by rw [Int.toNat_natCast, ← h6, h5]⟩⟩
            | succ j ih =>
              intro hj b1 t1 h5 h6
              have h6 : zApp x j (z_u b1 t1 (zByte x j)) (t1 + 1) = zApp x k b tn := h6
              have ej : (((j + 1 : Nat) : Int) - 1) = (j : Int) := by omega
              rw [ej]
              refine hG.1 [] 80 _ _ _ _ ?_
              refine ⟨by omega, fun h7 => absurd h7 (by omega), fun h7 => ?_⟩
              refine hG.2.2.1 (c_Fp_byteOf (x := x) (i := j) (by omega)) ys_Fp_byteOf (Or.inl lk_Fp_112) (by decide +kernel) rfl [] (by decide +kernel) rfl rfl rfl (Nat.le_of_ble_eq_true rfl) (fun v w2 hv hl2 => ?_)
              obtain ⟨rfl, rfl⟩ := hv
              change G _ _ _ (wFp img w ks ss n who ties su cs sz (zKs w' ks' ss' n' who' ties' su' cs' sz' (zTs b1 t1 tp fl rs rc sh)))
              refine hG.1 [] 80 _ _ _ _ ?_
              refine hG.2.1 (c_Tp_append (b := b1) (n := t1) (p := tp) (fl := fl) (x := zByte x j) (by omega)) yv_Tp_append lk_Fp_116 (by decide +kernel) rfl rfl [91, 92] (by decide +kernel) rfl rfl rfl (Nat.le_of_ble_eq_true rfl) (fun v w2 hv hl2 => ?_)
              obtain ⟨rfl, rfl⟩ := hv
              change G _ _ _ (wFp img w ks ss n who ties su cs sz (zKs w' ks' ss' n' who' ties' su' cs' sz' (zTs (z_u b1 t1 (zByte x j)) (t1 + 1) tp fl rs rc sh)))
              refine hG.1 [43] 80 _ _ _ _ ?_
              exact ih (by omega) _ _ (by omega) h6
          exact key k (Nat.le_refl k) b tn rfl rfl
        · exact ⟨trivial, Or.inr (Or.inl ⟨⟨by omega, hc⟩, by omega, rfl, rfl⟩)⟩
      · refine hG.1 [21] 80 _ _ _ _ ?_
        refine ⟨by omega, fun h3 => absurd rfl h3, fun h3 => ?_⟩
        exact ⟨trivial, Or.inr (Or.inr ⟨fun z => hc z.2, rfl, rfl⟩)⟩
theorem c_Fp_supper (ht : tn ≤ 80) (hb : ∀ j : Nat, j < tn → 32 ≤ b j ∧ b j ≤ 126) :
    zMet m_Fp_supper [.inr (.inr 0)] (wFp img w ks ss n who ties su cs sz (zKs w' ks' ss' n' who' ties' su' cs' sz' (zTs b tn tp fl rs rc sh))) (fun v wd => ∃ (p2 : Nat) (f2 : Int) (r2 : Int → Int), zMQ (zMeal b tn 8 (zFill rs 21) 0) f2 r2 ∧
      ((f2 ≠ 0 ∧ v = some (.inl f2) ∧ wd = wFp img w ks ss n who ties su cs sz (zKs w' ks' ss' n' who' ties' su' cs' sz' (zTs b 0 p2 f2 r2 rc sh))) ∨
       (f2 = 0 ∧ v = some (.inl (zSumN (z_cpy r2 w 21) 21)) ∧ wd = wFp img (z_cpy r2 w 21) ks ss n who ties su cs sz (zKs w' ks' ss' n' who' ties' su' cs' sz' (zTs b 0 p2 f2 r2 rc sh))))) := by
  refine zMet.of (own := RX6) rfl (by decide +kernel) tk_Fp_supper fok_Fp cok_Fp (Nat.le_of_ble_eq_true rfl) (fun G hG => ?_)
  refine hG.1 [] 80 _ _ _ _ ?_
  refine hG.2.1 (c_Tp_takeSupper (b := b) (n := tn) (p := tp) (fl := fl) (w := rs) ht hb) yv_Tp_takeSupper lk_Fp_120 (by decide +kernel) rfl rfl [91, 92, 93, 94] (by decide +kernel) rfl rfl rfl (Nat.le_of_ble_eq_true rfl) (fun v w2 hv hl2 => ?_)
  obtain ⟨p2, f2, r2, rfl, rfl, hf2, hQ⟩ := hv
  change G _ _ _ (wFp img w ks ss n who ties su cs sz (zKs w' ks' ss' n' who' ties' su' cs' sz' (zTs b 0 p2 f2 r2 rc sh)))
  refine hG.1 [] 80 _ _ _ _ ?_
  refine ⟨by omega, fun h1 => ?_, fun h1 => ?_⟩
  · refine hG.2.1 (c_Su_copyFrom (w := w) (w' := r2)) yv_Su_copyFrom lk_Fp_124 (by decide +kernel) rfl rfl [2, 3, 93, 94] (by decide +kernel) rfl rfl rfl (Nat.le_of_ble_eq_true rfl) (fun v w2 hv hl2 => ?_)
    obtain ⟨rfl, rfl⟩ := hv
    change G _ _ _ (wFp img (z_cpy r2 w 21) ks ss n who ties su cs sz (zKs w' ks' ss' n' who' ties' su' cs' sz' (zTs b 0 p2 f2 r2 rc sh)))
    refine hG.1 [] 80 _ _ _ _ ?_
    refine hG.2.1 (c_Su_together (w := z_cpy r2 w 21)) yv_Su_together lk_Fp_88 (by decide +kernel) rfl rfl [2, 3] (by decide +kernel) rfl rfl rfl (Nat.le_of_ble_eq_true rfl) (fun v w2 hv hl2 => ?_)
    obtain ⟨rfl, rfl⟩ := hv
    change G _ _ _ (wFp img (z_cpy r2 w 21) ks ss n who ties su cs sz (zKs w' ks' ss' n' who' ties' su' cs' sz' (zTs b 0 p2 f2 r2 rc sh)))
    refine hG.1 [] 80 _ _ _ _ ?_
    exact ⟨trivial, p2, f2, r2, hQ, Or.inr ⟨h1, rfl, rfl⟩⟩
  · exact ⟨trivial, p2, f2, r2, hQ, Or.inl ⟨h1, rfl, rfl⟩⟩
theorem c_Fp_guests (ht : tn ≤ 80) (hb : ∀ j : Nat, j < tn → 32 ≤ b j ∧ b j ≤ 126) :
    zMet m_Fp_guests [.inr (.inr 0)] (wFp img w ks ss n who ties su cs sz (zKs w' ks' ss' n' who' ties' su' cs' sz' (zTs b tn tp fl rs rc sh))) (fun v wd => ∃ (p2 : Nat) (f2 : Int) (k2 s2 : Int → Int) (m2 : Nat), zTQ (zTab b tn 9 rc.1 rc.2.1 0 0) f2 k2 s2 m2 ∧
      ((f2 ≠ 0 ∧ v = some (.inl f2) ∧ wd = wFp img w ks ss n who ties su cs sz (zKs w' ks' ss' n' who' ties' su' cs' sz' (zTs b 0 p2 f2 rs (k2, (s2, (m2, rc.2.2.2))) sh))) ∨
       (f2 = 0 ∧ v = some (.inl (m2 : Int)) ∧ wd = wFp img w (z_cpy k2 ks 9) (z_cpy s2 ss 9) m2 who ties su cs 0 (zKs w' ks' ss' n' who' ties' su' cs' sz' (zTs b 0 p2 f2 rs (k2, (s2, (m2, rc.2.2.2))) sh))))) := by
  refine zMet.of (own := RX6) rfl (by decide +kernel) tk_Fp_guests fok_Fp cok_Fp (Nat.le_of_ble_eq_true rfl) (fun G hG => ?_)
  refine hG.1 [] 80 _ _ _ _ ?_
  refine hG.2.1 (c_Tp_takeGuests (b := b) (n := tn) (p := tp) (fl := fl) (ks := rc.1) (ss := rc.2.1) (m := rc.2.2.1) (who := rc.2.2.2.1) (ties := rc.2.2.2.2) ht hb) yv_Tp_takeGuests lk_Fp_128 (by decide +kernel) rfl rfl [91, 92, 95, 96, 97] (by decide +kernel) rfl rfl rfl (Nat.le_of_ble_eq_true rfl) (fun v w2 hv hl2 => ?_)
  obtain ⟨p2, f2, k2, s2, m2, rfl, rfl, hf2, hQ⟩ := hv
  change G _ _ _ (wFp img w ks ss n who ties su cs sz (zKs w' ks' ss' n' who' ties' su' cs' sz' (zTs b 0 p2 f2 rs (k2, (s2, (m2, rc.2.2.2))) sh)))
  refine hG.1 [] 80 _ _ _ _ ?_
  refine ⟨by omega, fun h1 => ?_, fun h1 => ?_⟩
  · refine hG.2.1 (c_Co_seatAll (ks := ks) (ss := ss) (n := n) (who := who) (ties := ties) (ks' := k2) (ss' := s2) (n' := m2) (who' := rc.2.2.2.1) (ties' := rc.2.2.2.2)) yv_Co_seatAll lk_Fp_132 (by decide +kernel) rfl rfl [4, 5, 6, 95, 96, 97] (by decide +kernel) rfl rfl rfl (Nat.le_of_ble_eq_true rfl) (fun v w2 hv hl2 => ?_)
    obtain ⟨rfl, rfl⟩ := hv
    change G _ _ _ (wFp img w (z_cpy k2 ks 9) (z_cpy s2 ss 9) m2 who ties su cs sz (zKs w' ks' ss' n' who' ties' su' cs' sz' (zTs b 0 p2 f2 rs (k2, (s2, (m2, rc.2.2.2))) sh)))
    refine hG.1 [] 80 _ _ _ _ ?_
    refine hG.2.1 (c_Ni_clear (su := su) (cs := cs) (sz := sz)) yv_Ni_clear lk_Fp_140 (by decide +kernel) rfl rfl (List.range' 7 39) (by decide +kernel) fn_pick rfl rfl (Nat.le_of_ble_eq_true rfl) (fun v w2 hv hl2 => ?_)
    obtain ⟨rfl, rfl⟩ := hv
    rw [fn_back]
    refine hG.1 [] 80 _ _ _ _ ?_
    refine hG.2.1 (c_Co_size (ks := z_cpy k2 ks 9) (ss := z_cpy s2 ss 9) (n := m2) (who := who) (ties := ties)) yv_Co_size lk_Fp_69 (by decide +kernel) rfl rfl [4, 5, 6] (by decide +kernel) rfl rfl rfl (Nat.le_of_ble_eq_true rfl) (fun v w2 hv hl2 => ?_)
    obtain ⟨rfl, rfl⟩ := hv
    change G _ _ _ (wFp img w (z_cpy k2 ks 9) (z_cpy s2 ss 9) m2 who ties su cs 0 (zKs w' ks' ss' n' who' ties' su' cs' sz' (zTs b 0 p2 f2 rs (k2, (s2, (m2, rc.2.2.2))) sh)))
    refine hG.1 [] 80 _ _ _ _ ?_
    exact ⟨trivial, p2, f2, k2, s2, m2, hQ, Or.inr ⟨h1, rfl, rfl⟩⟩
  · exact ⟨trivial, p2, f2, k2, s2, m2, hQ, Or.inl ⟨h1, rfl, rfl⟩⟩
theorem sh_pick : ∀ i : Nat, i < 4 → [99 + 2 * i, 99 + 2 * i + 1].map (z_g (wFp img w ks ss n who ties su cs sz (zKs w' ks' ss' n' who' ties' su' cs' sz' (zTs b tn tp fl rs rc sh)))) = (wSh (sh i).1 (sh i).2.1 (sh i).2.2).map (fun c => some (z_ren [99 + 2 * i, 99 + 2 * i + 1] c))
  | 0, _ => rfl
  | 1, _ => rfl
  | 2, _ => rfl
  | 3, _ => rfl
  | i + 4, h => absurd h (by omega)
theorem sh_put (s : zSD) : ∀ i : Nat, i < 4 → z_sct [99 + 2 * i, 99 + 2 * i + 1] [99 + 2 * i, 99 + 2 * i + 1] (wSh s.1 s.2.1 s.2.2) (wFp img w ks ss n who ties su cs sz (zKs w' ks' ss' n' who' ties' su' cs' sz' (zTs b tn tp fl rs rc sh))) = wFp img w ks ss n who ties su cs sz (zKs w' ks' ss' n' who' ties' su' cs' sz' (zTs b tn tp fl rs rc (z_us sh i s)))
  | 0, _ => rfl
  | 1, _ => rfl
  | 2, _ => rfl
  | 3, _ => rfl
  | i + 4, h => absurd h (by omega)
theorem z_us_self (i : Nat) : z_us sh i (sh i) = sh := by
  funext k; unfold z_us; by_cases h : k = i
  · rw [if_pos h, h]
  · rw [if_neg h]
theorem sh_back (i : Nat) (h : i < 4) : z_sct [99 + 2 * i, 99 + 2 * i + 1] [99 + 2 * i, 99 + 2 * i + 1] (wSh (sh i).1 (sh i).2.1 (sh i).2.2) (wFp img w ks ss n who ties su cs sz (zKs w' ks' ss' n' who' ties' su' cs' sz' (zTs b tn tp fl rs rc sh))) = wFp img w ks ss n who ties su cs sz (zKs w' ks' ss' n' who' ties' su' cs' sz' (zTs b tn tp fl rs rc sh)) := by
  have e := sh_put (img := img) (w := w) (ks := ks) (ss := ss) (n := n) (who := who) (ties := ties) (su := su) (cs := cs) (sz := sz) (w' := w') (ks' := ks') (ss' := ss') (n' := n') (who' := who') (ties' := ties') (su' := su') (cs' := cs') (sz' := sz') (b := b) (tn := tn) (tp := tp) (fl := fl) (rs := rs) (rc := rc) (sh := sh) (sh i) i h
  rw [z_us_self] at e
  exact e
theorem z_nd2 (i : Nat) : [99 + 2 * i, 99 + 2 * i + 1].Nodup := by simp
def zOkH (s : zSD) : Prop := (0 ≤ s.2.1 ∧ s.2.1 ≤ 2) ∧ (-1 ≤ s.2.2 ∧ s.2.2 ≤ 24) ∧ ∀ j : Int, -9223372036854775808 ≤ s.1 j ∧ s.1 j ≤ 9223372036854775807
theorem c_Fp_sheet {x l y : Int} (hx : -2147483648 ≤ x ∧ x ≤ 2147483647) (hl : -2147483648 ≤ l ∧ l ≤ 2147483647) (hy : -2147483648 ≤ y ∧ y ≤ 2147483647) :
    zMet m_Fp_sheet [.inr (.inr 0), .inl x, .inl l, .inl y] (wFp img w ks ss n who ties su cs sz (zKs w' ks' ss' n' who' ties' su' cs' sz' (zTs b tn tp fl rs rc sh))) (fun v wd =>
      (((0 ≤ x ∧ x < 4) ∧ (0 ≤ l ∧ l ≤ 2) ∧ y ≤ 24) ∧ 0 ≤ y ∧ v = some (.inl y) ∧ wd = wFp img w ks ss n who ties su cs sz (zKs w' ks' ss' n' who' ties' su' cs' sz' (zTs b tn tp fl rs rc (z_us sh x.toNat (zFill (sh x.toNat).1 24, (l, y)))))) ∨
      (((0 ≤ x ∧ x < 4) ∧ (0 ≤ l ∧ l ≤ 2) ∧ y ≤ 24) ∧ y < 0 ∧ v = some (.inl (-14)) ∧ wd = wFp img w ks ss n who ties su cs sz (zKs w' ks' ss' n' who' ties' su' cs' sz' (zTs b tn tp fl rs rc sh))) ∨
      (¬ ((0 ≤ x ∧ x < 4) ∧ (0 ≤ l ∧ l ≤ 2) ∧ y ≤ 24) ∧ v = some (.inl (-1)) ∧ wd = wFp img w ks ss n who ties su cs sz (zKs w' ks' ss' n' who' ties' su' cs' sz' (zTs b tn tp fl rs rc sh)))) := by
  refine zMet.of (own := RX6) rfl (by decide +kernel) tk_Fp_sheet fok_Fp cok_Fp (Nat.le_of_ble_eq_true rfl) (fun G hG => ?_)
  refine hG.1 [] 80 _ _ _ _ ?_
  refine hG.2.2.1 (c_Fp_isSheet hx) ys_Fp_isSheet (Or.inl lk_Fp_221) (by decide +kernel) rfl [] (by decide +kernel) rfl rfl rfl (Nat.le_of_ble_eq_true rfl) (fun v w2 hv hl2 => ?_)
  obtain ⟨⟨hc, rfl⟩ | ⟨hc, rfl⟩, rfl⟩ := hv
  · refine hG.1 [] 80 _ _ _ _ ?_
    refine ⟨by omega, fun h1 => absurd h1 (by omega), fun h1 => ?_⟩
    refine hG.2.2.1 (c_Fp_isLane hl) ys_Fp_isLane (Or.inl lk_Fp_224) (by decide +kernel) rfl [] (by decide +kernel) rfl rfl rfl (Nat.le_of_ble_eq_true rfl) (fun v w2 hv hl2 => ?_)
    obtain ⟨⟨hc2, rfl⟩ | ⟨hc2, rfl⟩, rfl⟩ := hv
    · refine hG.1 [] 80 _ _ _ _ ?_
      refine ⟨by omega, fun h2 => absurd h2 (by omega), fun h2 => ?_⟩
      refine ⟨by omega, fun h3 => ?_, fun h3 => ?_⟩
      · refine ⟨by omega, fun h4 => ?_, fun h4 => ?_⟩
        · obtain ⟨i, rfl⟩ := z_nat hc.1
          rw [Int.toNat_natCast]
          refine ⟨by omega, ?_⟩
          refine hG.2.1 (c_Sh_begin (it := (sh i).1) (lane := (sh i).2.1) (size := (sh i).2.2) (l' := l) (n := y)) yv_Sh_begin lk_Fp_240 (by decide +kernel) rfl rfl [99 + 2 * i, 99 + 2 * i + 1] (z_nd2 i) (sh_pick i (by omega)) rfl rfl (Nat.le_of_ble_eq_true rfl) (fun v w2 hv hl2 => ?_)
          obtain ⟨rfl, rfl⟩ := hv
          rw [sh_put (zFill (sh i).1 24, (l, y)) i (by omega)]
          refine hG.1 [] 80 _ _ _ _ ?_
          exact ⟨trivial, Or.inl ⟨⟨hc, hc2, h3⟩, h4, rfl, rfl⟩⟩
        · exact ⟨trivial, Or.inr (Or.inl ⟨⟨hc, hc2, h3⟩, h4, rfl, rfl⟩)⟩
      · exact ⟨trivial, Or.inr (Or.inr ⟨fun z => by have := z.2.2; omega, rfl, rfl⟩)⟩
    · refine hG.1 [] 80 _ _ _ _ ?_
      refine ⟨by omega, fun h2 => ?_, fun h2 => absurd rfl h2⟩
      exact ⟨trivial, Or.inr (Or.inr ⟨fun z => hc2 z.2.1, rfl, rfl⟩)⟩
  · refine hG.1 [] 80 _ _ _ _ ?_
    refine ⟨by omega, fun h1 => ?_, fun h1 => absurd rfl h1⟩
    exact ⟨trivial, Or.inr (Or.inr ⟨fun z => hc z.1, rfl, rfl⟩)⟩
theorem c_Fp_drop {x : Int} (hx : -2147483648 ≤ x ∧ x ≤ 2147483647) (hH : ∀ i : Nat, i < 4 → zOkH (sh i)) :
    zMet m_Fp_drop [.inr (.inr 0), .inl x] (wFp img w ks ss n who ties su cs sz (zKs w' ks' ss' n' who' ties' su' cs' sz' (zTs b tn tp fl rs rc sh))) (fun v wd =>
      ((0 ≤ x ∧ x < 4) ∧ (sh x.toNat).2.2 ≠ -1 ∧ v = some (.inl (sh x.toNat).2.2) ∧ wd = wFp img w ks ss n who ties su cs sz (zKs w' ks' ss' n' who' ties' su' cs' sz' (zTs b tn tp fl rs rc (z_us sh x.toNat ((sh x.toNat).1, ((sh x.toNat).2.1, -1)))))) ∨
      ((0 ≤ x ∧ x < 4) ∧ (sh x.toNat).2.2 = -1 ∧ v = some (.inl (-11)) ∧ wd = wFp img w ks ss n who ties su cs sz (zKs w' ks' ss' n' who' ties' su' cs' sz' (zTs b tn tp fl rs rc sh))) ∨
      (¬ (0 ≤ x ∧ x < 4) ∧ v = some (.inl (-1)) ∧ wd = wFp img w ks ss n who ties su cs sz (zKs w' ks' ss' n' who' ties' su' cs' sz' (zTs b tn tp fl rs rc sh)))) := by
  refine zMet.of (own := RX6) rfl (by decide +kernel) tk_Fp_drop fok_Fp cok_Fp (Nat.le_of_ble_eq_true rfl) (fun G hG => ?_)
  refine hG.1 [] 80 _ _ _ _ ?_
  refine hG.2.2.1 (c_Fp_isSheet hx) ys_Fp_isSheet (Or.inl lk_Fp_221) (by decide +kernel) rfl [] (by decide +kernel) rfl rfl rfl (Nat.le_of_ble_eq_true rfl) (fun v w2 hv hl2 => ?_)
  obtain ⟨⟨hc, rfl⟩ | ⟨hc, rfl⟩, rfl⟩ := hv
  · refine hG.1 [] 80 _ _ _ _ ?_
    refine ⟨by omega, fun h1 => ?_, fun h1 => absurd h1 (by omega)⟩
    obtain ⟨i, rfl⟩ := z_nat hc.1
    rw [Int.toNat_natCast]
    have hi := hH i (by omega)
    refine ⟨by omega, ?_⟩
    refine hG.2.1 (c_Sh_isMissing (it := (sh i).1) (lane := (sh i).2.1) (size := (sh i).2.2) hi.2.1) yv_Sh_isMissing lk_Fp_243 (by decide +kernel) rfl rfl [99 + 2 * i, 99 + 2 * i + 1] (z_nd2 i) (sh_pick i (by omega)) rfl rfl (Nat.le_of_ble_eq_true rfl) (fun v w2 hv hl2 => ?_)
    rw [hv.2, sh_back i (by omega)]
    rcases hv.1 with ⟨hc2, rfl⟩ | ⟨hc2, rfl⟩
    · refine hG.1 [] 80 _ _ _ _ ?_
      refine ⟨by omega, fun h2 => absurd h2 (by omega), fun h2 => ?_⟩
      exact ⟨trivial, Or.inr (Or.inl ⟨hc, hc2, rfl, rfl⟩)⟩
    · refine hG.1 [] 80 _ _ _ _ ?_
      refine ⟨by omega, fun h2 => ?_, fun h2 => absurd rfl h2⟩
      refine hG.2.1 (c_Sh_size (it := (sh i).1) (lane := (sh i).2.1) (size := (sh i).2.2)) yv_Sh_size lk_Fp_246 (by decide +kernel) rfl rfl [99 + 2 * i, 99 + 2 * i + 1] (z_nd2 i) (sh_pick i (by omega)) rfl rfl (Nat.le_of_ble_eq_true rfl) (fun v w2 hv hl2 => ?_)
      obtain ⟨rfl, rfl⟩ := hv
      rw [sh_back i (by omega)]
      refine hG.1 [] 80 _ _ _ _ ?_
      refine hG.2.1 (c_Sh_end (it := (sh i).1) (lane := (sh i).2.1) (size := (sh i).2.2)) yv_Sh_end lk_Fp_247 (by decide +kernel) rfl rfl [99 + 2 * i, 99 + 2 * i + 1] (z_nd2 i) (sh_pick i (by omega)) rfl rfl (Nat.le_of_ble_eq_true rfl) (fun v w2 hv hl2 => ?_)
      obtain ⟨rfl, rfl⟩ := hv
      rw [sh_put ((sh i).1, ((sh i).2.1, -1)) i (by omega)]
      refine hG.1 [] 80 _ _ _ _ ?_
      exact ⟨trivial, Or.inl ⟨hc, hc2, rfl, rfl⟩⟩
  · refine hG.1 [] 80 _ _ _ _ ?_
    refine ⟨by omega, fun h1 => absurd rfl h1, fun h1 => ?_⟩
    exact ⟨trivial, Or.inr (Or.inr ⟨hc, rfl, rfl⟩)⟩
end Fw
