/-! FARTHESTPAYS: item, film, mixed -/
def zFilm (it : Int → Int) (fr : Int) (ss : Int → Int) (lane : Int) : Nat → (Int → Int)
  | 0 => it
  | k + 1 => z_u (zFilm it fr ss lane k) (fr + k) (zNar lane (ss k))
theorem zRef_0 {lane size a f n : Int} (h : zRef lane size a f n = 0) : size ≠ -1 ∧ a = lane ∧ 0 ≤ f ∧ f ≤ size - n := by
  unfold zRef at h
  split at h
  · omega
  · split at h
    · omega
    · split at h
      · omega
      · rename_i h1 h2 h3; exact ⟨h1, Classical.not_not.mp h2, by omega, by omega⟩
theorem zRef_in (lane size a f n : Int) : -13 ≤ zRef lane size a f n ∧ zRef lane size a f n ≤ 0 := by
  unfold zRef; repeat' split
  all_goals omega
theorem z_us_us {sh : Nat → zSD} {i : Nat} {s t : zSD} : z_us (z_us sh i s) i t = z_us sh i t := by
  funext k; unfold z_us; by_cases h : k = i
  · rw [if_pos h, if_pos h]
  · rw [if_neg h, if_neg h, if_neg h]
theorem z_us_at {sh : Nat → zSD} {i : Nat} {s : zSD} : z_us sh i s i = s := by unfold z_us; rw [if_pos rfl]
section Fx
variable {img : Int} {w ks ss : Int → Int} {n : Nat} {who ties : Int} {su : Int → Int} {cs : Nat → zCD} {sz : Nat} {w' ks' ss' : Int → Int} {n' : Nat} {who' ties' : Int} {su' : Int → Int} {cs' : Nat → zCD} {sz' : Nat} {b : Int → Int} {tn tp : Nat} {fl : Int} {rs : Int → Int} {rc : zCD} {sh : Nat → zSD}
theorem c_Fp_item {x l y u : Int} (hx : -2147483648 ≤ x ∧ x ≤ 2147483647) (hl : -2147483648 ≤ l ∧ l ≤ 2147483647) (hy : -2147483648 ≤ y ∧ y ≤ 2147483647) (hH : ∀ i : Nat, i < 4 → zOkH (sh i)) :
    zMet m_Fp_item [.inr (.inr 0), .inl x, .inl l, .inl y, .inr (.inl u)] (wFp img w ks ss n who ties su cs sz (zKs w' ks' ss' n' who' ties' su' cs' sz' (zTs b tn tp fl rs rc sh))) (fun v wd =>
      (((0 ≤ x ∧ x < 4) ∧ (0 ≤ l ∧ l ≤ 2)) ∧ zRef (sh x.toNat).2.1 (sh x.toNat).2.2 l y 1 = 0 ∧ v = some (.inl 1) ∧ wd = wFp img w ks ss n who ties su cs sz (zKs w' ks' ss' n' who' ties' su' cs' sz' (zTs b tn tp fl rs rc (z_us sh x.toNat (z_u (sh x.toNat).1 y (zNar (sh x.toNat).2.1 u), (sh x.toNat).2))))) ∨
      (((0 ≤ x ∧ x < 4) ∧ (0 ≤ l ∧ l ≤ 2)) ∧ zRef (sh x.toNat).2.1 (sh x.toNat).2.2 l y 1 ≠ 0 ∧ v = some (.inl (zRef (sh x.toNat).2.1 (sh x.toNat).2.2 l y 1)) ∧ wd = wFp img w ks ss n who ties su cs sz (zKs w' ks' ss' n' who' ties' su' cs' sz' (zTs b tn tp fl rs rc sh))) ∨
      (¬ ((0 ≤ x ∧ x < 4) ∧ (0 ≤ l ∧ l ≤ 2)) ∧ v = some (.inl (-1)) ∧ wd = wFp img w ks ss n who ties su cs sz (zKs w' ks' ss' n' who' ties' su' cs' sz' (zTs b tn tp fl rs rc sh)))) := by
  refine zMet.of (own := RX6) rfl (by decide +kernel) tk_Fp_item fok_Fp cok_Fp (Nat.le_of_ble_eq_true rfl) (fun G hG => ?_)
  refine hG.1 [] 80 _ _ _ _ ?_
  refine hG.2.2.1 (c_Fp_isSheet hx) ys_Fp_isSheet (Or.inl lk_Fp_221) (by decide +kernel) rfl [] (by decide +kernel) rfl rfl rfl (Nat.le_of_ble_eq_true rfl) (fun v w2 hv hl2 => ?_)
  obtain ⟨⟨hc, rfl⟩ | ⟨hc, rfl⟩, rfl⟩ := hv
  · refine hG.1 [] 80 _ _ _ _ ?_
    refine ⟨by omega, fun h1 => absurd h1 (by omega), fun h1 => ?_⟩
    refine hG.2.2.1 (c_Fp_isLane hl) ys_Fp_isLane (Or.inl lk_Fp_224) (by decide +kernel) rfl [] (by decide +kernel) rfl rfl rfl (Nat.le_of_ble_eq_true rfl) (fun v w2 hv hl2 => ?_)
    obtain ⟨⟨hc2, rfl⟩ | ⟨hc2, rfl⟩, rfl⟩ := hv
    · refine hG.1 [] 80 _ _ _ _ ?_
      refine ⟨by omega, fun h2 => ?_, fun h2 => absurd h2 (by omega)⟩
      obtain ⟨i, rfl⟩ := z_nat hc.1
      rw [Int.toNat_natCast]
      have hi := hH i (by omega)
      have hrin := zRef_in (sh i).2.1 (sh i).2.2 l y 1
      refine ⟨by omega, ?_⟩
      refine hG.2.1 (c_Sh_refusal (it := (sh i).1) (lane := (sh i).2.1) (size := (sh i).2.2) (a := l) (f := y) (n := 1) hi.2.1 hi.1 hl hy (by omega)) yv_Sh_refusal lk_Fp_227 (by decide +kernel) rfl rfl [99 + 2 * i, 99 + 2 * i + 1] (z_nd2 i) (sh_pick i (by omega)) rfl rfl (Nat.le_of_ble_eq_true rfl) (fun v w2 hv hl2 => ?_)
      obtain ⟨rfl, rfl⟩ := hv
      rw [sh_back i (by omega)]
      refine hG.1 [] 80 _ _ _ _ ?_
      refine ⟨by omega, fun h3 => ?_, fun h3 => ?_⟩
      · have h4 := zRef_0 h3
        refine ⟨by omega, ?_⟩
        refine hG.2.1 (c_Sh_put (it := (sh i).1) (lane := (sh i).2.1) (size := (sh i).2.2) (i := y) (v0 := u) hi.2.1.2 hi.1 (by omega)) yv_Sh_put lk_Fp_250 (by decide +kernel) rfl rfl [99 + 2 * i, 99 + 2 * i + 1] (z_nd2 i) (sh_pick i (by omega)) rfl rfl (Nat.le_of_ble_eq_true rfl) (fun v w2 hv hl2 => ?_)
        obtain ⟨rfl, rfl⟩ := hv
        rw [sh_put (z_u (sh i).1 y (zNar (sh i).2.1 u), (sh i).2) i (by omega)]
        refine hG.1 [] 80 _ _ _ _ ?_
        exact ⟨trivial, Or.inl ⟨⟨hc, hc2⟩, h3, rfl, rfl⟩⟩
      · exact ⟨trivial, Or.inr (Or.inl ⟨⟨hc, hc2⟩, h3, rfl, rfl⟩)⟩
    · refine hG.1 [] 80 _ _ _ _ ?_
      refine ⟨by omega, fun h2 => absurd rfl h2, fun h2 => ?_⟩
      exact ⟨trivial, Or.inr (Or.inr ⟨fun z => hc2 z.2, rfl, rfl⟩)⟩
  · refine hG.1 [] 80 _ _ _ _ ?_
    refine ⟨by omega, fun h1 => ?_, fun h1 => absurd rfl h1⟩
    exact ⟨trivial, Or.inr (Or.inr ⟨fun z => hc z.1, rfl, rfl⟩)⟩
theorem c_Fp_film {x l y : Int} (hx : -2147483648 ≤ x ∧ x ≤ 2147483647) (hl : -2147483648 ≤ l ∧ l ≤ 2147483647) (hy : -2147483648 ≤ y ∧ y ≤ 2147483647) (hn : n ≤ 9) (hS : zOkS ss n) (hH : ∀ i : Nat, i < 4 → zOkH (sh i)) :
    zMet m_Fp_film [.inr (.inr 0), .inl x, .inl l, .inl y] (wFp img w ks ss n who ties su cs sz (zKs w' ks' ss' n' who' ties' su' cs' sz' (zTs b tn tp fl rs rc sh))) (fun v wd =>
      (((0 ≤ x ∧ x < 4) ∧ (0 ≤ l ∧ l ≤ 2)) ∧ zRef (sh x.toNat).2.1 (sh x.toNat).2.2 l y n = 0 ∧ v = some (.inl (n : Int)) ∧ wd = wFp img w ks ss n who ties su cs sz (zKs w' ks' ss' n' who' ties' su' cs' sz' (zTs b tn tp fl rs rc (z_us sh x.toNat (zFilm (sh x.toNat).1 y ss (sh x.toNat).2.1 n, (sh x.toNat).2))))) ∨
      (((0 ≤ x ∧ x < 4) ∧ (0 ≤ l ∧ l ≤ 2)) ∧ zRef (sh x.toNat).2.1 (sh x.toNat).2.2 l y n ≠ 0 ∧ v = some (.inl (zRef (sh x.toNat).2.1 (sh x.toNat).2.2 l y n)) ∧ wd = wFp img w ks ss n who ties su cs sz (zKs w' ks' ss' n' who' ties' su' cs' sz' (zTs b tn tp fl rs rc sh))) ∨
      (¬ ((0 ≤ x ∧ x < 4) ∧ (0 ≤ l ∧ l ≤ 2)) ∧ v = some (.inl (-1)) ∧ wd = wFp img w ks ss n who ties su cs sz (zKs w' ks' ss' n' who' ties' su' cs' sz' (zTs b tn tp fl rs rc sh)))) := by
  refine zMet.of (own := RX6) rfl (by decide +kernel) tk_Fp_film fok_Fp cok_Fp (Nat.le_of_ble_eq_true rfl) (fun G hG => ?_)
  refine hG.1 [] 80 _ _ _ _ ?_
  refine hG.2.2.1 (c_Fp_isSheet hx) ys_Fp_isSheet (Or.inl lk_Fp_221) (by decide +kernel) rfl [] (by decide +kernel) rfl rfl rfl (Nat.le_of_ble_eq_true rfl) (fun v w2 hv hl2 => ?_)
  obtain ⟨⟨hc, rfl⟩ | ⟨hc, rfl⟩, rfl⟩ := hv
  · refine hG.1 [] 80 _ _ _ _ ?_
    refine ⟨by omega, fun h1 => absurd h1 (by omega), fun h1 => ?_⟩
    refine hG.2.2.1 (c_Fp_isLane hl) ys_Fp_isLane (Or.inl lk_Fp_224) (by decide +kernel) rfl [] (by decide +kernel) rfl rfl rfl (Nat.le_of_ble_eq_true rfl) (fun v w2 hv hl2 => ?_)
    obtain ⟨⟨hc2, rfl⟩ | ⟨hc2, rfl⟩, rfl⟩ := hv
    · refine hG.1 [] 80 _ _ _ _ ?_
      refine ⟨by omega, fun h2 => ?_, fun h2 => absurd h2 (by omega)⟩
      obtain ⟨i, rfl⟩ := z_nat hc.1
      rw [Int.toNat_natCast]
      have hi := hH i (by omega)
      have hrin := zRef_in (sh i).2.1 (sh i).2.2 l y n
      refine hG.2.1 (c_Co_size ) yv_Co_size lk_Fp_69 (by decide +kernel) rfl rfl [4, 5, 6] (by decide +kernel) rfl rfl rfl (Nat.le_of_ble_eq_true rfl) (fun v w2 hv hl2 => ?_)
      obtain ⟨rfl, rfl⟩ := hv
      change G _ _ _ (wFp img w ks ss n who ties su cs sz (zKs w' ks' ss' n' who' ties' su' cs' sz' (zTs b tn tp fl rs rc sh)))
      refine hG.1 [] 80 _ _ _ _ ?_
      refine ⟨by omega, ?_⟩
      refine hG.2.1 (c_Sh_refusal (it := (sh i).1) (lane := (sh i).2.1) (size := (sh i).2.2) (a := l) (f := y) (n := n) hi.2.1 hi.1 hl hy (by omega)) yv_Sh_refusal lk_Fp_227 (by decide +kernel) rfl rfl [99 + 2 * i, 99 + 2 * i + 1] (z_nd2 i) (sh_pick i (by omega)) rfl rfl (Nat.le_of_ble_eq_true rfl) (fun v w2 hv hl2 => ?_)
      obtain ⟨rfl, rfl⟩ := hv
      rw [sh_back i (by omega)]
      refine hG.1 [54] 80 _ _ _ _ ?_
      refine ⟨by omega, fun h3 => ?_, fun h3 => ?_⟩
      · have h4 := zRef_0 h3
        have start : G 54 [(0, .inr (.inr 0)), (1, .inl (i : Int)), (2, .inl l), (3, .inl y), (4, .inl (n : Int)), (5, .inl (zRef (sh i).2.1 (sh i).2.2 l y n)), (6, .inl ((0 : Nat) : Int))] [] (wFp img w ks ss n who ties su cs sz (zKs w' ks' ss' n' who' ties' su' cs' sz' (zTs b tn tp fl rs rc (z_us sh i (zFilm (sh i).1 y ss (sh i).2.1 0, (sh i).2))))) := by
          refine z_up0 (n := n) (P := fun g : Nat => G 54 [(0, .inr (.inr 0)), (1, .inl (i : Int)), (2, .inl l), (3, .inl y), (4, .inl (n : Int)), (5, .inl (zRef (sh i).2.1 (sh i).2.2 l y n)), (6, .inl (g : Int))] [] (wFp img w ks ss n who ties su cs sz (zKs w' ks' ss' n' who' ties' su' cs' sz' (zTs b tn tp fl rs rc (z_us sh i (zFilm (sh i).1 y ss (sh i).2.1 g, (sh i).2)))))) ?_ (fun g hg ih => ?_)
          · refine hG.1 [] 80 _ _ _ _ ?_
            refine ⟨by omega, fun q => ?_, fun q => absurd q (by omega)⟩
            exact ⟨trivial, Or.inl ⟨⟨hc, hc2⟩, h3, rfl, rfl⟩⟩
          · have hsg := hS g hg
            refine hG.1 [54] 80 _ _ _ _ ?_
            refine ⟨by omega, fun q => absurd q (by omega), fun q => ?_⟩
            refine ⟨by omega, ?_⟩
            refine hG.2.1 (c_Co_slipOf (g := g) hg hn) yv_Co_slipOf lk_Fp_82 (by decide +kernel) rfl rfl [4, 5, 6] (by decide +kernel) rfl rfl rfl (Nat.le_of_ble_eq_true rfl) (fun v w2 hv hl2 => ?_)
            obtain ⟨rfl, rfl⟩ := hv
            change G _ _ _ (wFp img w ks ss n who ties su cs sz (zKs w' ks' ss' n' who' ties' su' cs' sz' (zTs b tn tp fl rs rc (z_us sh i (zFilm (sh i).1 y ss (sh i).2.1 g, (sh i).2)))))
            refine hG.1 [54] 80 _ _ _ _ ?_
            refine ⟨by omega, ?_⟩
            have hpk := sh_pick (img := img) (w := w) (ks := ks) (ss := ss) (n := n) (who := who) (ties := ties) (su := su) (cs := cs) (sz := sz) (w' := w') (ks' := ks') (ss' := ss') (n' := n') (who' := who') (ties' := ties') (su' := su') (cs' := cs') (sz' := sz') (b := b) (tn := tn) (tp := tp) (fl := fl) (rs := rs) (rc := rc) (sh := z_us sh i (zFilm (sh i).1 y ss (sh i).2.1 g, (sh i).2)) i (by omega)
            rw [z_us_at] at hpk
            refine hG.2.1 (c_Sh_put (it := zFilm (sh i).1 y ss (sh i).2.1 g) (lane := (sh i).2.1) (size := (sh i).2.2) (i := y + g) (v0 := ss g) hi.2.1.2 hi.1 (by omega)) yv_Sh_put lk_Fp_250 (by decide +kernel) rfl rfl [99 + 2 * i, 99 + 2 * i + 1] (z_nd2 i) hpk rfl rfl (Nat.le_of_ble_eq_true rfl) (fun v w2 hv hl2 => ?_)
            obtain ⟨rfl, rfl⟩ := hv
            rw [sh_put (z_u (zFilm (sh i).1 y ss (sh i).2.1 g) (y + g) (zNar (sh i).2.1 (ss g)), (sh i).2) i (by omega), z_us_us]
            refine hG.1 [54] 80 _ _ _ _ ?_
            exact ih
        have e0 : z_us sh i (zFilm (sh i).1 y ss (sh i).2.1 0, (sh i).2) = sh := z_us_self i
        rw [e0] at start
        exact start
      · exact ⟨trivial, Or.inr (Or.inl ⟨⟨hc, hc2⟩, h3, rfl, rfl⟩)⟩
    · refine hG.1 [] 80 _ _ _ _ ?_
      refine ⟨by omega, fun h2 => absurd rfl h2, fun h2 => ?_⟩
      exact ⟨trivial, Or.inr (Or.inr ⟨fun z => hc2 z.2, rfl, rfl⟩)⟩
  · refine hG.1 [] 80 _ _ _ _ ?_
    refine ⟨by omega, fun h1 => ?_, fun h1 => absurd rfl h1⟩
    exact ⟨trivial, Or.inr (Or.inr ⟨fun z => hc z.1, rfl, rfl⟩)⟩
end Fx
