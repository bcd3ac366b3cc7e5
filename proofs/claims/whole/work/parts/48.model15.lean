/-! THE REFERENCE: host, choice, who knew, who was in league -/
theorem zWas_iff {nm : Int → Int} {g : Int} : ∀ {k : Nat}, zWas nm g k ↔ ∀ i : Nat, i < k → g < nm i
  | 0 => ⟨fun _ i h => absurd h (Nat.not_lt_zero _), fun _ => trivial⟩
  | k + 1 => by
    show (zWas nm g k ∧ g < nm k) ↔ _
    rw [zWas_iff]
    constructor
    · rintro ⟨h1, h2⟩ i hi
      rcases Nat.lt_succ_iff_lt_or_eq.mp hi with h | rfl
      · exact h1 i h
      · exact h2
    · exact fun h => ⟨fun i hi => h i (by omega), h k (by omega)⟩
def zKnM (su nm ns : Int → Int) (sz g : Nat) : Prop := (0 < sz ∧ zWas nm g sz) ∧ ∀ i : Nat, i < sz → ns (9 * (i : Int) + g) = su i
noncomputable def zKnB (su nm ns : Int → Int) (sz : Nat) : Nat → Bool := fun g => @decide (zKnM su nm ns sz g) (Classical.propDecidable _)
theorem zKnB_iff {su nm ns : Int → Int} {sz g : Nat} : zKnB su nm ns sz g = true ↔ zKnM su nm ns sz g := @decide_eq_true_iff _ (Classical.propDecidable _)
def zLgI (np ns : Int → Int) (a b g i : Nat) : Prop := zBit (np i) g ∧ ((ns (9 * (i : Int) + a) < ns (9 * (i : Int) + g) ∧ ns (9 * (i : Int) + g) < ns (9 * (i : Int) + b)) ∨ (ns (9 * (i : Int) + b) < ns (9 * (i : Int) + g) ∧ ns (9 * (i : Int) + g) < ns (9 * (i : Int) + a)))
def zAre (nm np ns : Int → Int) (sz a b g : Nat) : Prop := (0 < sz ∧ zWas nm a sz ∧ zWas nm b sz ∧ zWas nm g sz) ∧ ∀ i : Nat, i < sz → zLgI np ns a b g i
noncomputable def zPrX (B : Nat → Nat → Prop) (m : Nat) : Nat → Nat
  | 0 => 0
  | a + 1 => zPrX B m a + zPrB B a m
theorem zPrB_le (B : Nat → Nat → Prop) (a : Nat) : ∀ m, zPrB B a m ≤ m
  | 0 => Nat.le_refl _
  | m + 1 => by have := zPrB_le B a m; unfold zPrB; split <;> omega
theorem zPrX_le (B : Nat → Nat → Prop) {m : Nat} (hm : m ≤ 9) : ∀ a, zPrX B m a ≤ 9 * a
  | 0 => Nat.le_refl _
  | a + 1 => by have := zPrX_le B hm a; have := zPrB_le B a m; unfold zPrX; omega
def zFirstR (B : Nat → Nat → Prop) (N : Nat) (r : Int) : Prop := (r = -4 ∧ ∀ a b : Nat, a < b → b < N → ¬ B a b) ∨ ∃ a b : Nat, a < b ∧ b < N ∧ B a b ∧ r = 10 * (a : Int) + b ∧ ∀ a' b' : Nat, a' < b' → b' < N → (a' < a ∨ (a' = a ∧ b' < b)) → ¬ B a' b'
def zFj (B : Nat → Nat → Prop) (N a b cnt : Nat) (r : Int) : Prop := (cnt = 0 ∧ r = -4 ∧ ∀ a' b' : Nat, a' < b' → b' < N → (a' < a ∨ (a' = a ∧ b' < b)) → ¬ B a' b') ∨ (0 < cnt ∧ ∃ x y : Nat, x < y ∧ y < N ∧ B x y ∧ r = 10 * (x : Int) + y ∧ ∀ a' b' : Nat, a' < b' → b' < N → (a' < x ∨ (a' = x ∧ b' < y)) → ¬ B a' b')
theorem zFj_no {B : Nat → Nat → Prop} {N a b cnt : Nat} {r : Int} (h : zFj B N a b cnt r) (hb : ¬ (a < b ∧ B a b)) : zFj B N a (b + 1) cnt r := by
  rcases h with ⟨h1, h2, h3⟩ | h
  · refine Or.inl ⟨h1, h2, fun a' b' q1 q2 q3 q4 => ?_⟩
    by_cases e : a' = a ∧ b' = b
    · obtain ⟨rfl, rfl⟩ := e; exact hb ⟨q1, q4⟩
    · exact h3 a' b' q1 q2 (by omega) q4
  · exact Or.inr h
theorem zFj_yes {B : Nat → Nat → Prop} {N a b cnt : Nat} {r : Int} (h : zFj B N a b cnt r) (hab : a < b) (hbN : b < N) (hB : B a b) : zFj B N a (b + 1) (cnt + 1) (if cnt = 0 then 10 * (a : Int) + b else r) := by
  rcases h with ⟨h1, h2, h3⟩ | ⟨h1, h2⟩
  · rw [if_pos h1]
    exact Or.inr ⟨by omega, a, b, hab, hbN, hB, rfl, h3⟩
  · rw [if_neg (by omega)]
    exact Or.inr ⟨by omega, h2⟩
theorem zFj_row {B : Nat → Nat → Prop} {N a cnt : Nat} {r : Int} (h : zFj B N a N cnt r) : zFj B N (a + 1) 0 cnt r := by
  rcases h with ⟨h1, h2, h3⟩ | h
  · exact Or.inl ⟨h1, h2, fun a' b' q1 q2 q3 => h3 a' b' q1 q2 (by omega)⟩
  · exact Or.inr h
theorem zFj_end {B : Nat → Nat → Prop} {N cnt : Nat} {r : Int} (h : zFj B N N 0 cnt r) : zFirstR B N r := by
  rcases h with ⟨_, h2, h3⟩ | ⟨_, h2⟩
  · exact Or.inl ⟨h2, fun a b q1 q2 => h3 a b q1 q2 (by omega)⟩
  · exact Or.inr h2
section M15
variable {w ks ss : Int → Int} {n : Nat} {la su nm np ns : Int → Int} {sz : Nat} {tp : Int → Int} {tn pl : Nat} {rs : Int} {rd : Int → Int} {lp ik : Int} {kp : Int → Int} {km kn : Int} {ln rz it : Int → Int}
theorem c_Mo_host {x g : Int} (hx : -2147483648 ≤ x ∧ x ≤ 2147483647) (hg : -2147483648 ≤ g ∧ g ≤ 2147483647) (hL : zOkL n (la 0) (la 1)) (hS : zOkS ss n) :
    zMet m_Mo_host [.inr (.inr 0), .inl x, .inl g] (wMo w ks ss n la su nm np ns sz tp tn pl rs rd lp ik kp km kn ln rz it) (fun v wd => v = some (.inl (if (0 < x ∧ x < 2097152) ∧ (0 ≤ g ∧ g < n) then (zHs x (zDue ss n (la 0) (la 1) g.toNat) 21).1 else -1)) ∧ wd = wMo w ks ss n la su nm np ns sz tp tn pl rs rd lp ik kp km kn ln rz it) := by
  obtain ⟨hn, hlw, hla⟩ := hL
  refine zMet.of (own := RX7) rfl (by decide +kernel) tk_Mo_host fok_Mo cok_Mo (Nat.le_of_ble_eq_true rfl) (fun G hG => ?_)
  refine hG.1 [] 80 _ _ _ _ ?_
  refine hG.2.2.1 (c_Mo_areSums (x := x) hx) ys_Mo_areSums (Or.inl lk_Mo_200) (by decide +kernel) rfl [] (by decide +kernel) rfl rfl rfl (Nat.le_of_ble_eq_true rfl) (fun v w2 hv hl2 => ?_)
  obtain ⟨⟨h1, rfl⟩ | ⟨h1, rfl⟩, rfl⟩ := hv
  · change G _ _ _ (wMo w ks ss n la su nm np ns sz tp tn pl rs rd lp ik kp km kn ln rz it)
    refine hG.1 [] 80 _ _ _ _ ?_
    refine ⟨by omega, fun q => absurd q (by omega), fun q => ?_⟩
    refine hG.2.1 (c_Mo_isGuest (g := g) hg hn) yv_Mo_isGuest lk_Mo_75 (by decide +kernel) rfl rfl [0, 1, 2, 3, 4, 5, 6, 7, 8, 9, 10, 11, 12, 13, 14] (by decide +kernel) rfl rfl rfl (Nat.le_of_ble_eq_true rfl) (fun v w2 hv hl2 => ?_)
    obtain ⟨⟨h2, rfl⟩ | ⟨h2, rfl⟩, rfl⟩ := hv
    · change G _ _ _ (wMo w ks ss n la su nm np ns sz tp tn pl rs rd lp ik kp km kn ln rz it)
      refine hG.1 [25] 80 _ _ _ _ ?_
      refine ⟨by omega, fun q => ?_, fun q => absurd q (by omega)⟩
      obtain ⟨k, rfl⟩ := z_nat h2.1
      have hd : ∀ j, 0 ≤ zDue ss n (la 0) (la 1) k j := fun j => Int.mul_nonneg (by omega) (zSh_in ss n (la 0) (la 1) j k (zFree ss n (la 0))).1
      have hd2 : ∀ j : Nat, j ≤ 20 → zDue ss n (la 0) (la 1) k j ≤ 20 * 2520 := fun j hj => Int.mul_le_mul (by omega) (zSh_in ss n (la 0) (la 1) j k (zFree ss n (la 0))).2 (zSh_in ss n (la 0) (la 1) j k (zFree ss n (la 0))).1 (by omega)
      have hz : ∀ j : Nat, j ≤ 21 → -1 ≤ (zHs x (zDue ss n (la 0) (la 1) k) j).2 ∧ (zHs x (zDue ss n (la 0) (la 1) k) j).2 ≤ 20 * 2520 := by
        intro j
        induction j with
        | zero => intro _; show -1 ≤ (-1 : Int) ∧ (-1 : Int) ≤ 20 * 2520; omega
        | succ j ih =>
          intro hj
          have h3 := ih (by omega)
          have h4 := hd j
          have h5 := hd2 j (by omega)
          unfold zHs
          split
          · dsimp only; omega
          · exact h3
      refine z_up0 (n := 21) (P := fun i : Nat => ∀ l : zL, G 25 ([(0, .inr (.inr 0)), (1, .inl x), (2, .inl (k : Int)), (3, .inl (zHs x (zDue ss n (la 0) (la 1) k) i).1), (4, .inl (zHs x (zDue ss n (la 0) (la 1) k) i).2), (5, .inl (i : Int))] ++ l) [] (wMo w ks ss n la su nm np ns sz tp tn pl rs rd lp ik kp km kn ln rz it)) (fun l => ?_) (fun i hi ih l => ?_) []
      · refine hG.2.2.2.2.1 (fun q hq => List.mem_append_left _ hq) ?_
        refine hG.1 [] 80 _ _ _ _ ?_
        refine ⟨by omega, fun q3 => ?_, fun q3 => absurd q3 (by omega)⟩
        exact ⟨trivial, by rw [if_pos ⟨h1, h2⟩, Int.toNat_natCast], rfl⟩
      · refine hG.2.2.2.2.1 (fun q hq => List.mem_append_left _ hq) ?_
        have e : zHs x (zDue ss n (la 0) (la 1) k) (i + 1) = if zBit x i ∧ (zHs x (zDue ss n (la 0) (la 1) k) i).2 < zDue ss n (la 0) (la 1) k i then ((i : Int), zDue ss n (la 0) (la 1) k i) else zHs x (zDue ss n (la 0) (la 1) k) i := rfl
        have hzi := hz i (by omega)
        have hdi := hd i
        have hdi2 := hd2 i (by omega)
        rw [e] at ih
        refine hG.1 [25] 80 _ _ _ _ ?_
        refine ⟨by omega, fun q3 => absurd q3 (by omega), fun q3 => ?_⟩
        refine hG.2.2.1 (c_Mo_has (x := x) (g := i) hx (by omega)) ys_Mo_has (Or.inl lk_Mo_129) (by decide +kernel) rfl [] (by decide +kernel) rfl rfl rfl (Nat.le_of_ble_eq_true rfl) (fun v w2 hv hl2 => ?_)
        obtain ⟨⟨hc, rfl⟩ | ⟨hc, rfl⟩, rfl⟩ := hv
        · change G _ _ _ (wMo w ks ss n la su nm np ns sz tp tn pl rs rd lp ik kp km kn ln rz it)
          refine hG.1 [25] 80 _ _ _ _ ?_
          refine ⟨by omega, fun q4 => absurd q4 (by omega), fun q4 => ?_⟩
          refine hG.2.1 (c_Mo_partsFor (g := k) (k := i) (by omega) (by omega) hn hS hlw hla) yv_Mo_partsFor lk_Mo_160 (by decide +kernel) rfl rfl [0, 1, 2, 3, 4, 5, 6, 7, 8, 9, 10, 11, 12, 13, 14] (by decide +kernel) rfl rfl rfl (Nat.le_of_ble_eq_true rfl) (fun v w2 hv hl2 => ?_)
          obtain ⟨rfl, rfl⟩ := hv
          change G _ _ _ (wMo w ks ss n la su nm np ns sz tp tn pl rs rd lp ik kp km kn ln rz it)
          refine hG.1 [25] 80 _ _ _ _ ?_
          refine ⟨by omega, fun q5 => ?_, fun q5 => ?_⟩
          · rw [if_neg (by omega)] at ih
            refine ⟨by omega, fun q6 => ?_, fun q6 => absurd q6 (by omega)⟩
            exact ih _
          · rw [if_pos ⟨hc, q5⟩] at ih
            refine ⟨by omega, fun q6 => absurd q6 (by omega), fun q6 => ?_⟩
            exact ih _
        · change G _ _ _ (wMo w ks ss n la su nm np ns sz tp tn pl rs rd lp ik kp km kn ln rz it)
          rw [if_neg (fun z => hc z.1)] at ih
          refine hG.1 [25] 80 _ _ _ _ ?_
          refine ⟨by omega, fun q4 => ?_, fun q4 => absurd rfl q4⟩
          refine ⟨by omega, fun q5 => ?_, fun q5 => absurd q5 (by omega)⟩
          refine ⟨by omega, fun q6 => ?_, fun q6 => absurd q6 (by omega)⟩
          exact ih _
    · change G _ _ _ (wMo w ks ss n la su nm np ns sz tp tn pl rs rd lp ik kp km kn ln rz it)
      refine hG.1 [] 80 _ _ _ _ ?_
      refine ⟨by omega, fun q => absurd rfl q, fun q => ?_⟩
      exact ⟨trivial, by rw [if_neg (fun z => h2 z.2)], rfl⟩
  · change G _ _ _ (wMo w ks ss n la su nm np ns sz tp tn pl rs rd lp ik kp km kn ln rz it)
    refine hG.1 [] 80 _ _ _ _ ?_
    refine ⟨by omega, fun q => ?_, fun q => absurd rfl q⟩
    exact ⟨trivial, by rw [if_neg (fun z => h1 z.1)], rfl⟩
theorem c_Mo_choice {x : Int} (hx : -2147483648 ≤ x ∧ x ≤ 2147483647) (hL : zOkL n (la 0) (la 1)) (hS : zOkS ss n) :
    zMet m_Mo_choice [.inr (.inr 0), .inl x] (wMo w ks ss n la su nm np ns sz tp tn pl rs rd lp ik kp km kn ln rz it) (fun v wd => v = some (.inl (if 0 < x ∧ x < 2097152 then (zPop 9 (zChM x ss n (la 0) (la 1) 21) : Int) else -1)) ∧ wd = wMo w ks ss n la su nm np ns sz tp tn pl rs rd lp ik kp km kn ln rz it) := by
  obtain ⟨hn, hlw, hla⟩ := hL
  refine zMet.of (own := RX7) rfl (by decide +kernel) tk_Mo_choice fok_Mo cok_Mo (Nat.le_of_ble_eq_true rfl) (fun G hG => ?_)
  refine hG.1 [] 80 _ _ _ _ ?_
  refine hG.2.2.1 (c_Mo_areSums (x := x) hx) ys_Mo_areSums (Or.inl lk_Mo_200) (by decide +kernel) rfl [] (by decide +kernel) rfl rfl rfl (Nat.le_of_ble_eq_true rfl) (fun v w2 hv hl2 => ?_)
  obtain ⟨⟨h1, rfl⟩ | ⟨h1, rfl⟩, rfl⟩ := hv
  · change G _ _ _ (wMo w ks ss n la su nm np ns sz tp tn pl rs rd lp ik kp km kn ln rz it)
    refine hG.1 [13] 80 _ _ _ _ ?_
    refine ⟨by omega, fun q => ?_, fun q => absurd q (by omega)⟩
    have e1 : zChM x ss n (la 0) (la 1) 1 = 0 := by
      exact if_neg (fun z => Nat.not_succ_le_zero 0 z.1)
    have e0 : n = 0 → ∀ i, zChM x ss n (la 0) (la 1) i = 0 := by
      intro h0 i
      induction i with
      | zero => rfl
      | succ i ih =>
        show (if 1 ≤ i ∧ zBit x i then zChM x ss n (la 0) (la 1) i ||| zMaskN (zPay ss n (la 0) (la 1) i) n else zChM x ss n (la 0) (la 1) i) = 0
        rw [ih, h0]
        split
        · exact Nat.or_zero 0
        · rfl
    have fin : ∀ i : Nat, zChM x ss n (la 0) (la 1) i = zChM x ss n (la 0) (la 1) 21 → G 52 [(0, .inr (.inr 0)), (1, .inl x), (2, .inl (zChM x ss n (la 0) (la 1) i : Int)), (3, .inl (i : Int))] [] (wMo w ks ss n la su nm np ns sz tp tn pl rs rd lp ik kp km kn ln rz it) := by
      intro i he
      rw [he]
      have hlt := zChM_lt (x := x) (ss := ss) (who := la 0) (ties := la 1) hn 21
      refine hG.1 [] 80 _ _ _ _ ?_
      refine hG.2.2.1 (c_Mo_ones (s := zChM x ss n (la 0) (la 1) 21) hlt) ys_Mo_ones (Or.inl lk_Mo_153) (by decide +kernel) rfl [] (by decide +kernel) rfl rfl rfl (Nat.le_of_ble_eq_true rfl) (fun v w2 hv hl2 => ?_)
      obtain ⟨rfl, rfl⟩ := hv
      change G _ _ _ (wMo w ks ss n la su nm np ns sz tp tn pl rs rd lp ik kp km kn ln rz it)
      refine hG.1 [] 80 _ _ _ _ ?_
      exact ⟨trivial, by rw [if_pos h1] <;> rfl, rfl⟩
    suffices L : ∀ i, i ≤ 21 → (1 ≤ i → G 13 [(0, .inr (.inr 0)), (1, .inl x), (2, .inl (zChM x ss n (la 0) (la 1) i : Int)), (3, .inl (i : Int))] [] (wMo w ks ss n la su nm np ns sz tp tn pl rs rd lp ik kp km kn ln rz it)) by
      have := L 1 (by omega) (by omega)
      rw [e1] at this; exact this
    refine z_up (fun hb => ?_) (fun i hi ih hb => ?_)
    · refine hG.1 [52] 80 _ _ _ _ ?_
      refine ⟨by omega, fun q3 => ?_, fun q3 => absurd q3 (by omega)⟩
      exact fin 21 rfl
    · have e : zChM x ss n (la 0) (la 1) (i + 1) = if 1 ≤ i ∧ zBit x i then zChM x ss n (la 0) (la 1) i ||| zMaskN (zPay ss n (la 0) (la 1) i) n else zChM x ss n (la 0) (la 1) i := rfl
      have hlt := zChM_lt (x := x) (ss := ss) (who := la 0) (ties := la 1) hn i
      have hm9 := zMask9 (p := zPay ss n (la 0) (la 1) i) hn
      have ih := ih (by omega)
      refine hG.1 [13, 52] 80 _ _ _ _ ?_
      refine ⟨by omega, fun q3 => absurd q3 (by omega), fun q3 => ?_⟩
      refine ⟨by omega, fun q4 => ?_, fun q4 => ?_⟩
      · exact fin i (by rw [e0 (by omega), e0 (by omega)])
      · refine hG.2.2.1 (c_Mo_has (x := x) (g := i) hx (by omega)) ys_Mo_has (Or.inl lk_Mo_129) (by decide +kernel) rfl [] (by decide +kernel) rfl rfl rfl (Nat.le_of_ble_eq_true rfl) (fun v w2 hv hl2 => ?_)
        obtain ⟨⟨hc, rfl⟩ | ⟨hc, rfl⟩, rfl⟩ := hv
        · change G _ _ _ (wMo w ks ss n la su nm np ns sz tp tn pl rs rd lp ik kp km kn ln rz it)
          refine hG.1 [13] 80 _ _ _ _ ?_
          refine ⟨by omega, fun q5 => absurd q5 (by omega), fun q5 => ?_⟩
          refine hG.2.1 (c_Mo_payers2 (sum := (i : Int)) (show 1 ≤ n by omega) hn hS (by omega) hlw hla) yv_Mo_payers lk_Mo_150 (by decide +kernel) rfl rfl [0, 1, 2, 3, 4, 5, 6, 7, 8, 9, 10, 11, 12, 13, 14] (by decide +kernel) rfl rfl rfl (Nat.le_of_ble_eq_true rfl) (fun v w2 hv hl2 => ?_)
          obtain ⟨rfl, rfl⟩ := hv
          change G _ _ _ (wMo w ks ss n la su nm np ns sz tp tn pl rs rd lp ik kp km kn ln rz it)
          rw [e, if_pos ⟨hb, hc⟩, ← z_orN (by omega) (by omega)] at ih
          refine hG.1 [13] 80 _ _ _ _ ?_
          exact ih
        · change G _ _ _ (wMo w ks ss n la su nm np ns sz tp tn pl rs rd lp ik kp km kn ln rz it)
          have eor : z_or (zChM x ss n (la 0) (la 1) i : Int) ((0 : Nat) : Int) = ((zChM x ss n (la 0) (la 1) i ||| 0 : Nat) : Int) := z_orN (by omega) (by omega)
          rw [Nat.or_zero] at eor
          rw [e, if_neg (fun z => hc z.2), ← eor] at ih
          refine hG.1 [13] 80 _ _ _ _ ?_
          refine ⟨by omega, fun q5 => ?_, fun q5 => absurd rfl q5⟩
          exact ih
  · change G _ _ _ (wMo w ks ss n la su nm np ns sz tp tn pl rs rd lp ik kp km kn ln rz it)
    refine hG.1 [] 80 _ _ _ _ ?_
    refine ⟨by omega, fun q => absurd rfl q, fun q => ?_⟩
    exact ⟨trivial, by rw [if_neg h1], rfl⟩
theorem c_Mo_knew (hn : n ≤ 9) (hz : sz ≤ 12) (hU : ∀ i : Nat, i < sz → 0 ≤ su i ∧ su i ≤ 20) (hN : ∀ i : Nat, i < sz → 0 ≤ nm i ∧ nm i ≤ 9) (hX : ∀ i g : Nat, i < sz → (g : Int) < nm i → 0 ≤ ns (9 * (i : Int) + g) ∧ ns (9 * (i : Int) + g) ≤ 20) :
    zMet m_Mo_knew [.inr (.inr 0)] (wMo w ks ss n la su nm np ns sz tp tn pl rs rd lp ik kp km kn ln rz it) (fun v wd => v = some (.inl ((zMaskN (zKnB su nm ns sz) n : Nat) : Int)) ∧ wd = wMo w ks ss n la su nm np ns sz tp tn pl rs rd lp ik kp km kn ln rz it) := by
  refine zMet.of (own := RX7) rfl (by decide +kernel) tk_Mo_knew fok_Mo cok_Mo (Nat.le_of_ble_eq_true rfl) (fun G hG => ?_)
  refine hG.1 [4] 80 _ _ _ _ ?_
  refine z_up0 (n := n) (P := fun i : Nat => ∀ l : zL, G 4 ([(0, .inr (.inr 0)), (1, .inl ((zMaskN (zKnB su nm ns sz) i : Nat) : Int)), (2, .inl (i : Int))] ++ l) [] (wMo w ks ss n la su nm np ns sz tp tn pl rs rd lp ik kp km kn ln rz it)) (fun l => ?_) (fun g hg ih l => ?_) []
  · refine hG.2.2.2.2.1 (fun q hq => List.mem_append_left _ hq) ?_
    refine hG.1 [] 80 _ _ _ _ ?_
    refine ⟨by omega, fun q => ?_, fun q => absurd q (by omega)⟩
    exact ⟨trivial, rfl, rfl⟩
  · refine hG.2.2.2.2.1 (fun q hq => List.mem_append_left _ hq) ?_
    have e : zMaskN (zKnB su nm ns sz) (g + 1) = zMaskN (zKnB su nm ns sz) g + (if zKnB su nm ns sz g = true then 2 ^ g else 0) := rfl
    have hlt : zMaskN (zKnB su nm ns sz) g < 512 := zMask9 (by omega)
    rw [e] at ih
    have tail : ∀ (d : Int) (i : Nat), z_bool (zKnM su nm ns sz g) (some (.inl d)) → G 68 [(0, .inr (.inr 0)), (1, .inl ((zMaskN (zKnB su nm ns sz) g : Nat) : Int)), (2, .inl (g : Int)), (3, .inl d), (4, .inl (i : Int))] [] (wMo w ks ss n la su nm np ns sz tp tn pl rs rd lp ik kp km kn ln rz it) := by
      intro d i hd
      rcases hd with ⟨hk, hv⟩ | ⟨hk, hv⟩
      · obtain rfl : d = 1 := by injection hv with hv; injection hv
        rw [if_pos (zKnB_iff.mpr hk), ← z_bits1 g (by omega) _ (zMaskN_lt _ g)] at ih
        refine hG.1 [4] 80 _ _ _ _ ?_
        refine ⟨by omega, fun q1 => absurd q1 (by omega), fun q1 => ?_⟩
        exact ⟨by omega, ih _⟩
      · obtain rfl : d = 0 := by injection hv with hv; injection hv
        have eor : z_or ((zMaskN (zKnB su nm ns sz) g : Nat) : Int) ((0 : Nat) : Int) = ((zMaskN (zKnB su nm ns sz) g ||| 0 : Nat) : Int) := z_orN (by omega) (by omega)
        rw [Nat.or_zero] at eor
        rw [if_neg (fun z => hk (zKnB_iff.mp z)), Nat.add_zero, ← eor] at ih
        refine hG.1 [4] 80 _ _ _ _ ?_
        refine ⟨by omega, fun q1 => ?_, fun q1 => absurd rfl q1⟩
        exact ih _
    refine hG.1 [] 80 _ _ _ _ ?_
    refine ⟨by omega, fun q => absurd q (by omega), fun q => ?_⟩
    refine hG.2.1 (c_Mo_wasThere (g := g) (by omega) hz hN) yv_Mo_wasThere lk_Mo_203 (by decide +kernel) rfl rfl [0, 1, 2, 3, 4, 5, 6, 7, 8, 9, 10, 11, 12, 13, 14] (by decide +kernel) rfl rfl rfl (Nat.le_of_ble_eq_true rfl) (fun v w2 hv hl2 => ?_)
    obtain ⟨⟨hc, rfl⟩ | ⟨hc, rfl⟩, rfl⟩ := hv
    · change G _ _ _ (wMo w ks ss n la su nm np ns sz tp tn pl rs rd lp ik kp km kn ln rz it)
      have hw := zWas_iff.mp hc.2
      refine hG.1 [21] 80 _ _ _ _ ?_
      suffices L : ∀ i, i ≤ sz → ((∀ j : Nat, j < i → ns (9 * (j : Int) + g) = su j) → G 21 [(0, .inr (.inr 0)), (1, .inl ((zMaskN (zKnB su nm ns sz) g : Nat) : Int)), (2, .inl (g : Int)), (3, .inl 1), (4, .inl (i : Int))] [] (wMo w ks ss n la su nm np ns sz tp tn pl rs rd lp ik kp km kn ln rz it)) from L 0 (by omega) (fun j h => by omega)
      refine z_up (fun hb => ?_) (fun i hi ih2 hb => ?_)
      · refine hG.1 [68] 80 _ _ _ _ ?_
        refine ⟨by omega, fun q1 => ?_, fun q1 => absurd q1 (by omega)⟩
        exact tail 1 sz (Or.inl ⟨⟨hc, hb⟩, rfl⟩)
      · have h3 := hX i g hi (hw i hi)
        have h4 := hU i hi
        refine hG.1 [21, 68] 80 _ _ _ _ ?_
        refine ⟨by omega, fun q1 => absurd q1 (by omega), fun q1 => ?_⟩
        refine ⟨by omega, fun q2 => absurd q2 (by omega), fun q2 => ?_⟩
        refine ⟨by omega, by omega, by omega, fun q3 => ?_, fun q3 => ?_⟩
        · -- unlike: behind it the loop ends
          have bad : z_bool (zKnM su nm ns sz g) (some (.inl 0)) := Or.inr ⟨fun z => q3 (z.2 i hi), rfl⟩
          refine hG.1 [68] 80 _ _ _ _ ?_
          refine ⟨by omega, fun q4 => ?_, fun q4 => ?_⟩
          · exact tail 0 (i + 1) bad
          · refine ⟨by omega, fun q5 => ?_, fun q5 => absurd rfl q5⟩
            exact tail 0 (i + 1) bad
        · exact ih2 (fun j hj => by
            rcases Nat.lt_succ_iff_lt_or_eq.mp hj with h | rfl
            · exact hb j h
            · exact q3)
    · change G _ _ _ (wMo w ks ss n la su nm np ns sz tp tn pl rs rd lp ik kp km kn ln rz it)
      have bad : z_bool (zKnM su nm ns sz g) (some (.inl 0)) := Or.inr ⟨fun z => hc z.1, rfl⟩
      refine hG.1 [68] 80 _ _ _ _ ?_
      refine ⟨by omega, fun q1 => ?_, fun q1 => ?_⟩
      · exact tail 0 0 bad
      · refine ⟨by omega, fun q5 => ?_, fun q5 => absurd rfl q5⟩
        exact tail 0 0 bad
theorem c_Mo_areLeague {a b g : Nat} (ha : a < 9) (hb : b < 9) (hg : g < 9) (hz : sz ≤ 12) (hN : ∀ i : Nat, i < sz → 0 ≤ nm i ∧ nm i ≤ 9) (hP : ∀ i : Nat, i < sz → 0 ≤ np i ∧ np i < 512) (hX : ∀ i g : Nat, i < sz → (g : Int) < nm i → 0 ≤ ns (9 * (i : Int) + g) ∧ ns (9 * (i : Int) + g) ≤ 20) :
    zMet m_Mo_areLeague [.inr (.inr 0), .inl (a : Int), .inl (b : Int), .inl (g : Int)] (wMo w ks ss n la su nm np ns sz tp tn pl rs rd lp ik kp km kn ln rz it) (fun v wd => z_bool (zAre nm np ns sz a b g) v ∧ wd = wMo w ks ss n la su nm np ns sz tp tn pl rs rd lp ik kp km kn ln rz it) := by
  refine zMet.of (own := RX7) rfl (by decide +kernel) tk_Mo_areLeague fok_Mo cok_Mo (Nat.le_of_ble_eq_true rfl) (fun G hG => ?_)
  have bad : ∀ i : Nat, i ≤ 12 → ¬ zAre nm np ns sz a b g → ∀ l : zL, G 34 ([(0, .inr (.inr 0)), (1, .inl (a : Int)), (2, .inl (b : Int)), (3, .inl (g : Int)), (4, .inl 0), (5, .inl (i : Int))] ++ l) [] (wMo w ks ss n la su nm np ns sz tp tn pl rs rd lp ik kp km kn ln rz it) := by
    intro i hi hk l
    refine hG.2.2.2.2.1 (fun q hq => List.mem_append_left _ hq) ?_
    refine hG.1 [] 80 _ _ _ _ ?_
    refine ⟨by omega, fun q1 => ?_, fun q1 => ?_⟩
    · exact ⟨Or.inl rfl, Or.inr ⟨hk, rfl⟩, rfl⟩
    · refine ⟨by omega, fun q5 => ?_, fun q5 => absurd rfl q5⟩
      exact ⟨Or.inl rfl, Or.inr ⟨hk, rfl⟩, rfl⟩
  refine hG.1 [] 80 _ _ _ _ ?_
  refine hG.2.1 (c_Mo_wasThere (g := a) ha hz hN) yv_Mo_wasThere lk_Mo_203 (by decide +kernel) rfl rfl [0, 1, 2, 3, 4, 5, 6, 7, 8, 9, 10, 11, 12, 13, 14] (by decide +kernel) rfl rfl rfl (Nat.le_of_ble_eq_true rfl) (fun v w2 hv hl2 => ?_)
  obtain ⟨⟨h1, rfl⟩ | ⟨h1, rfl⟩, rfl⟩ := hv
  · change G _ _ _ (wMo w ks ss n la su nm np ns sz tp tn pl rs rd lp ik kp km kn ln rz it)
    refine hG.1 [] 80 _ _ _ _ ?_
    refine ⟨by omega, fun q => absurd q (by omega), fun q => ?_⟩
    refine hG.2.1 (c_Mo_wasThere (g := b) hb hz hN) yv_Mo_wasThere lk_Mo_203 (by decide +kernel) rfl rfl [0, 1, 2, 3, 4, 5, 6, 7, 8, 9, 10, 11, 12, 13, 14] (by decide +kernel) rfl rfl rfl (Nat.le_of_ble_eq_true rfl) (fun v w2 hv hl2 => ?_)
    obtain ⟨⟨h2, rfl⟩ | ⟨h2, rfl⟩, rfl⟩ := hv
    · change G _ _ _ (wMo w ks ss n la su nm np ns sz tp tn pl rs rd lp ik kp km kn ln rz it)
      refine hG.1 [] 80 _ _ _ _ ?_
      refine ⟨by omega, fun q => absurd q (by omega), fun q => ?_⟩
      refine hG.2.1 (c_Mo_wasThere (g := g) hg hz hN) yv_Mo_wasThere lk_Mo_203 (by decide +kernel) rfl rfl [0, 1, 2, 3, 4, 5, 6, 7, 8, 9, 10, 11, 12, 13, 14] (by decide +kernel) rfl rfl rfl (Nat.le_of_ble_eq_true rfl) (fun v w2 hv hl2 => ?_)
      obtain ⟨⟨h3, rfl⟩ | ⟨h3, rfl⟩, rfl⟩ := hv
      · change G _ _ _ (wMo w ks ss n la su nm np ns sz tp tn pl rs rd lp ik kp km kn ln rz it)
        have wa := zWas_iff.mp h1.2
        have wb := zWas_iff.mp h2.2
        have wg := zWas_iff.mp h3.2
        refine hG.1 [34] 80 _ _ _ _ ?_
        refine ⟨by omega, fun q => absurd q (by omega), fun q => ?_⟩
        suffices L : ∀ i, i ≤ sz → ((∀ j : Nat, j < i → zLgI np ns a b g j) → ∀ l : zL, G 34 ([(0, .inr (.inr 0)), (1, .inl (a : Int)), (2, .inl (b : Int)), (3, .inl (g : Int)), (4, .inl 1), (5, .inl (i : Int))] ++ l) [] (wMo w ks ss n la su nm np ns sz tp tn pl rs rd lp ik kp km kn ln rz it)) from L 0 (by omega) (fun j h => by omega) []
        refine z_up (fun hb l => ?_) (fun i hi ih hb l => ?_)
        · refine hG.2.2.2.2.1 (fun q hq => List.mem_append_left _ hq) ?_
          refine hG.1 [] 80 _ _ _ _ ?_
          refine ⟨by omega, fun q1 => ?_, fun q1 => absurd q1 (by omega)⟩
          exact ⟨Or.inr rfl, Or.inl ⟨⟨⟨h1.1, h1.2, h2.2, h3.2⟩, hb⟩, rfl⟩, rfl⟩
        · refine hG.2.2.2.2.1 (fun q hq => List.mem_append_left _ hq) ?_
          have xa := hX i a hi (wa i hi)
          have xb := hX i b hi (wb i hi)
          have xg := hX i g hi (wg i hi)
          have hp := hP i hi
          have hno : ¬ zLgI np ns a b g i → ¬ zAre nm np ns sz a b g := fun h z => h (z.2 i hi)
          have hyes : zLgI np ns a b g i → ∀ l : zL, G 34 ([(0, .inr (.inr 0)), (1, .inl (a : Int)), (2, .inl (b : Int)), (3, .inl (g : Int)), (4, .inl 1), (5, .inl ((i + 1 : Nat) : Int))] ++ l) [] (wMo w ks ss n la su nm np ns sz tp tn pl rs rd lp ik kp km kn ln rz it) := fun h => ih (fun j hj => by
            rcases Nat.lt_succ_iff_lt_or_eq.mp hj with h' | rfl
            · exact hb j h'
            · exact h)
          unfold zLgI at hno hyes
          refine hG.1 [34] 80 _ _ _ _ ?_
          refine ⟨by omega, fun q1 => absurd q1 (by omega), fun q1 => ?_⟩
          refine ⟨by omega, fun q2 => absurd q2 (by omega), fun q2 => ?_⟩
          refine ⟨by omega, by omega, by omega, by omega, ?_⟩
          refine hG.2.2.1 (c_Mo_has (x := np i) (g := g) (by omega) (by omega)) ys_Mo_has (Or.inl lk_Mo_129) (by decide +kernel) rfl [] (by decide +kernel) rfl rfl rfl (Nat.le_of_ble_eq_true rfl) (fun v w2 hv hl2 => ?_)
          obtain ⟨⟨hc, rfl⟩ | ⟨hc, rfl⟩, rfl⟩ := hv
          · change G _ _ _ (wMo w ks ss n la su nm np ns sz tp tn pl rs rd lp ik kp km kn ln rz it)
            refine hG.1 [34, 118] 80 _ _ _ _ ?_
            refine ⟨by omega, fun q3 => absurd q3 (by omega), fun q3 => ?_⟩
            have hno2 : ¬ ((ns (9 * (i : Int) + a) < ns (9 * (i : Int) + g) ∧ ns (9 * (i : Int) + g) < ns (9 * (i : Int) + b)) ∨ (ns (9 * (i : Int) + b) < ns (9 * (i : Int) + g) ∧ ns (9 * (i : Int) + g) < ns (9 * (i : Int) + a))) → ¬ zAre nm np ns sz a b g := fun h => hno (fun z => h z.2)
            have hyes2 := fun h => hyes ⟨hc, h⟩
            have last : ∀ l : zL, ¬ (ns (9 * (i : Int) + a) < ns (9 * (i : Int) + g) ∧ ns (9 * (i : Int) + g) < ns (9 * (i : Int) + b)) → G 118 ([(0, .inr (.inr 0)), (1, .inl (a : Int)), (2, .inl (b : Int)), (3, .inl (g : Int)), (4, .inl 1), (5, .inl (i : Int)), (6, .inl (ns (9 * (i : Int) + g))), (7, .inl (ns (9 * (i : Int) + a))), (8, .inl (ns (9 * (i : Int) + b)))] ++ l) [] (wMo w ks ss n la su nm np ns sz tp tn pl rs rd lp ik kp km kn ln rz it) := by
              intro l hn1
              refine hG.2.2.2.2.1 (fun q hq => List.mem_append_left _ hq) ?_
              refine hG.1 [34] 80 _ _ _ _ ?_
              refine ⟨by omega, fun q4 => ?_, fun q4 => ?_⟩
              · exact bad (i + 1) (by omega) (hno2 (by omega)) _
              · refine ⟨by omega, fun q5 => ?_, fun q5 => ?_⟩
                · exact bad (i + 1) (by omega) (hno2 (by omega)) _
                · exact hyes2 (by omega) _
            refine ⟨by omega, fun q4 => ?_, fun q4 => ?_⟩
            · exact last [] (by omega)
            · refine ⟨by omega, fun q5 => ?_, fun q5 => ?_⟩
              · exact hyes2 (by omega) _
              · exact last [] (by omega)
          · change G _ _ _ (wMo w ks ss n la su nm np ns sz tp tn pl rs rd lp ik kp km kn ln rz it)
            refine hG.1 [34] 80 _ _ _ _ ?_
            refine ⟨by omega, fun q3 => ?_, fun q3 => absurd rfl q3⟩
            exact bad (i + 1) (by omega) (hno (fun z => hc z.1)) _
      · change G _ _ _ (wMo w ks ss n la su nm np ns sz tp tn pl rs rd lp ik kp km kn ln rz it)
        refine hG.1 [34] 80 _ _ _ _ ?_
        refine ⟨by omega, fun q => ?_, fun q => absurd rfl q⟩
        exact bad 0 (by omega) (fun z => h3 ⟨z.1.1, z.1.2.2.2⟩) []
    · change G _ _ _ (wMo w ks ss n la su nm np ns sz tp tn pl rs rd lp ik kp km kn ln rz it)
      refine hG.1 [34] 80 _ _ _ _ ?_
      refine ⟨by omega, fun q => ?_, fun q => absurd rfl q⟩
      exact bad 0 (by omega) (fun z => h2 ⟨z.1.1, z.1.2.2.1⟩) []
  · change G _ _ _ (wMo w ks ss n la su nm np ns sz tp tn pl rs rd lp ik kp km kn ln rz it)
    refine hG.1 [34] 80 _ _ _ _ ?_
    refine ⟨by omega, fun q => ?_, fun q => absurd rfl q⟩
    exact bad 0 (by omega) (fun z => h1 ⟨z.1.1, z.1.2.1⟩) []
def zBR (nm np ns : Int → Int) (sz g : Nat) (a b : Nat) : Prop := a ≠ g ∧ b ≠ g ∧ zAre nm np ns sz a b g
theorem c_Mo_leagues {g x : Int} (hg : -2147483648 ≤ g ∧ g ≤ 2147483647) (hx : -2147483648 ≤ x ∧ x ≤ 2147483647) (hn : n ≤ 9) (hz : sz ≤ 12) (hN : ∀ i : Nat, i < sz → 0 ≤ nm i ∧ nm i ≤ 9) (hP : ∀ i : Nat, i < sz → 0 ≤ np i ∧ np i < 512) (hX : ∀ i g : Nat, i < sz → (g : Int) < nm i → 0 ≤ ns (9 * (i : Int) + g) ∧ ns (9 * (i : Int) + g) ≤ 20) :
    zMet m_Mo_leagues [.inr (.inr 0), .inl g, .inl x] (wMo w ks ss n la su nm np ns sz tp tn pl rs rd lp ik kp km kn ln rz it) (fun v wd =>
      ((((0 ≤ g ∧ g < n) ∧ x = 0) ∧ v = some (.inl ((zPrX (zBR nm np ns sz g.toNat) n n : Nat) : Int))) ∨
       (((0 ≤ g ∧ g < n) ∧ x = 1) ∧ ∃ r, v = some (.inl r) ∧ zFirstR (zBR nm np ns sz g.toNat) n r) ∨
       (¬ ((0 ≤ g ∧ g < n) ∧ (0 ≤ x ∧ x ≤ 1)) ∧ v = some (.inl (-1)))) ∧ wd = wMo w ks ss n la su nm np ns sz tp tn pl rs rd lp ik kp km kn ln rz it) := by
  refine zMet.of (own := RX7) rfl (by decide +kernel) tk_Mo_leagues fok_Mo cok_Mo (Nat.le_of_ble_eq_true rfl) (fun G hG => ?_)
  refine hG.1 [] 80 _ _ _ _ ?_
  refine hG.2.1 (c_Mo_isGuest (g := g) hg hn) yv_Mo_isGuest lk_Mo_75 (by decide +kernel) rfl rfl [0, 1, 2, 3, 4, 5, 6, 7, 8, 9, 10, 11, 12, 13, 14] (by decide +kernel) rfl rfl rfl (Nat.le_of_ble_eq_true rfl) (fun v w2 hv hl2 => ?_)
  obtain ⟨⟨h1, rfl⟩ | ⟨h1, rfl⟩, rfl⟩ := hv
  · change G _ _ _ (wMo w ks ss n la su nm np ns sz tp tn pl rs rd lp ik kp km kn ln rz it)
    refine hG.1 [] 80 _ _ _ _ ?_
    refine ⟨by omega, fun q => absurd q (by omega), fun q => ?_⟩
    refine ⟨by omega, ?_⟩
    refine hG.2.2.1 (c_Mo_in (a := x) (b := 0) (c := 1) (by omega) (by omega) (by omega)) ys_Mo_in (Or.inl lk_Mo_55) (by decide +kernel) rfl [] (by decide +kernel) rfl rfl rfl (Nat.le_of_ble_eq_true rfl) (fun v w2 hv hl2 => ?_)
    obtain ⟨⟨h2, rfl⟩ | ⟨h2, rfl⟩, rfl⟩ := hv
    · change G _ _ _ (wMo w ks ss n la su nm np ns sz tp tn pl rs rd lp ik kp km kn ln rz it)
      obtain ⟨k, rfl⟩ := z_nat h1.1
      refine hG.1 [29] 80 _ _ _ _ ?_
      refine ⟨by omega, fun q => ?_, fun q => absurd q (by omega)⟩
      suffices L : ∀ a, a ≤ n → ∀ (r : Int) (l : zL), zFj (zBR nm np ns sz k) n a 0 (zPrX (zBR nm np ns sz k) n a) r → G 29 ([(0, .inr (.inr 0)), (1, .inl (k : Int)), (2, .inl x), (3, .inl ((zPrX (zBR nm np ns sz k) n a : Nat) : Int)), (4, .inl r), (5, .inl (a : Int))] ++ l) [] (wMo w ks ss n la su nm np ns sz tp tn pl rs rd lp ik kp km kn ln rz it) from L 0 (by omega) (-4) [] (Or.inl ⟨rfl, rfl, fun a' b' _ _ h => by omega⟩)
      refine z_up (fun r l hj => ?_) (fun a ha ih r l hj => ?_)
      · refine hG.2.2.2.2.1 (fun q hq => List.mem_append_left _ hq) ?_
        refine hG.1 [] 80 _ _ _ _ ?_
        refine ⟨by omega, fun q1 => ?_, fun q1 => absurd q1 (by omega)⟩
        refine ⟨by omega, fun q2 => ?_, fun q2 => ?_⟩
        · exact ⟨trivial, Or.inr (Or.inl ⟨⟨h1, by omega⟩, r, rfl, zFj_end hj⟩), rfl⟩
        · exact ⟨trivial, Or.inl ⟨⟨h1, q2⟩, rfl⟩, rfl⟩
      · refine hG.2.2.2.2.1 (fun q hq => List.mem_append_left _ hq) ?_
        have hxa := zPrX_le (zBR nm np ns sz k) hn a
        refine hG.1 [44] 80 _ _ _ _ ?_
        refine ⟨by omega, fun q1 => absurd q1 (by omega), fun q1 => ?_⟩
        have inner : ∀ b, b ≤ n → (a < b → ∀ r : Int, zFj (zBR nm np ns sz k) n a b (zPrX (zBR nm np ns sz k) n a + zPrB (zBR nm np ns sz k) a b) r → G 44 [(0, .inr (.inr 0)), (1, .inl (k : Int)), (2, .inl x), (3, .inl ((zPrX (zBR nm np ns sz k) n a + zPrB (zBR nm np ns sz k) a b : Nat) : Int)), (4, .inl r), (5, .inl (a : Int)), (6, .inl (b : Int))] [] (wMo w ks ss n la su nm np ns sz tp tn pl rs rd lp ik kp km kn ln rz it)) := by
          refine z_up (fun hab r hj => ?_) (fun b hb2 ihb hab r hj => ?_)
          · refine hG.1 [29] 80 _ _ _ _ ?_
            refine ⟨by omega, fun q2 => ?_, fun q2 => absurd q2 (by omega)⟩
            exact ih r _ (zFj_row hj)
          · have e : zPrB (zBR nm np ns sz k) a (b + 1) = zPrB (zBR nm np ns sz k) a b + @ite _ (a < b ∧ zBR nm np ns sz k a b) (Classical.propDecidable _) 1 0 := rfl
            have hxb := zPrB_le (zBR nm np ns sz k) a b
            have skip : ¬ zBR nm np ns sz k a b → G 44 [(0, .inr (.inr 0)), (1, .inl (k : Int)), (2, .inl x), (3, .inl ((zPrX (zBR nm np ns sz k) n a + zPrB (zBR nm np ns sz k) a b : Nat) : Int)), (4, .inl r), (5, .inl (a : Int)), (6, .inl ((b + 1 : Nat) : Int))] [] (wMo w ks ss n la su nm np ns sz tp tn pl rs rd lp ik kp km kn ln rz it) := by
              intro hno
              have h5 := ihb (by omega) r
              rw [e, if_neg (fun z => hno z.2), Nat.add_zero] at h5
              exact h5 (zFj_no hj (fun z => hno z.2))
            refine hG.1 [44] 80 _ _ _ _ ?_
            refine ⟨by omega, fun q2 => absurd q2 (by omega), fun q2 => ?_⟩
            refine ⟨by omega, fun q3 => ?_, fun q3 => ?_⟩
            · exact skip (fun z => z.1 (by omega))
            · refine ⟨by omega, fun q4 => ?_, fun q4 => ?_⟩
              · exact skip (fun z => z.2.1 (by omega))
              · refine hG.2.1 (c_Mo_areLeague (a := a) (b := b) (g := k) (by omega) (by omega) (by omega) hz hN hP hX) yv_Mo_areLeague lk_Mo_206 (by decide +kernel) rfl rfl [0, 1, 2, 3, 4, 5, 6, 7, 8, 9, 10, 11, 12, 13, 14] (by decide +kernel) rfl rfl rfl (Nat.le_of_ble_eq_true rfl) (fun v w2 hv hl2 => ?_)
                obtain ⟨⟨hc, rfl⟩ | ⟨hc, rfl⟩, rfl⟩ := hv
                · change G _ _ _ (wMo w ks ss n la su nm np ns sz tp tn pl rs rd lp ik kp km kn ln rz it)
                  have hB : zBR nm np ns sz k a b := ⟨fun z => q3 (by rw [z]), fun z => q4 (by rw [z]), hc⟩
                  have h5 := fun r => ihb (by omega) r
                  rw [e, if_pos ⟨hab, hB⟩] at h5
                  have h6 := zFj_yes hj hab hb2 hB
                  refine hG.1 [44] 80 _ _ _ _ ?_
                  refine ⟨by omega, fun q5 => absurd q5 (by omega), fun q5 => ?_⟩
                  refine ⟨by omega, fun q6 => ?_, fun q6 => ?_⟩
                  · rw [if_neg (by omega)] at h6
                    exact h5 r h6
                  · rw [if_pos (by omega)] at h6
                    exact h5 _ h6
                · change G _ _ _ (wMo w ks ss n la su nm np ns sz tp tn pl rs rd lp ik kp km kn ln rz it)
                  refine hG.1 [44] 80 _ _ _ _ ?_
                  refine ⟨by omega, fun q5 => ?_, fun q5 => absurd rfl q5⟩
                  exact skip (fun z => hc z.2.2)
        have h5 := inner (a + 1) (by omega) (by omega) r
        rw [zPrB_0 _ a (a + 1) (by omega), Nat.add_zero] at h5
        exact h5 (by
          rcases hj with ⟨j1, j2, j3⟩ | hj
          · exact Or.inl ⟨j1, j2, fun a' b' p1 p2 p3 => j3 a' b' p1 p2 (by omega)⟩
          · exact Or.inr hj)
    · change G _ _ _ (wMo w ks ss n la su nm np ns sz tp tn pl rs rd lp ik kp km kn ln rz it)
      refine hG.1 [] 80 _ _ _ _ ?_
      refine ⟨by omega, fun q => absurd rfl q, fun q => ?_⟩
      exact ⟨trivial, Or.inr (Or.inr ⟨fun z => h2 z.2, rfl⟩), rfl⟩
  · change G _ _ _ (wMo w ks ss n la su nm np ns sz tp tn pl rs rd lp ik kp km kn ln rz it)
    refine hG.1 [] 80 _ _ _ _ ?_
    refine ⟨by omega, fun q => ?_, fun q => absurd rfl q⟩
    exact ⟨trivial, Or.inr (Or.inr ⟨fun z => h1 z.1, rfl⟩), rfl⟩
end M15
