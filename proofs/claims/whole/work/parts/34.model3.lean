/-! THE REFERENCE: the farthest, one of them, the first off -/
theorem z_p2 : ∀ g, g < 12 → (1 * 2 ^ ((g : Nat) : Int).toNat : Int) = ((2 ^ g : Nat) : Int) := by decide +kernel
theorem z_p2lt : ∀ g, g < 9 → 2 ^ g < 512 := by decide +kernel
def zDst (near : Int) (ss : Int → Int) (sum : Int) (g : Nat) : Int := if near = 0 then zOff ss sum g else 99 - zOff ss sum g
def zFar (near : Int) (ss : Int → Int) (sum : Int) (p : Nat → Bool) : Nat → Int × Nat
  | 0 => (-1, 0)
  | k + 1 => if p k = true then (if (zFar near ss sum p k).1 < zDst near ss sum k then (zDst near ss sum k, 2 ^ k) else if zDst near ss sum k = (zFar near ss sum p k).1 then ((zFar near ss sum p k).1, (zFar near ss sum p k).2 + 2 ^ k) else zFar near ss sum p k) else zFar near ss sum p k
theorem zDst_in {near : Int} {ss : Int → Int} {sum : Int} {g : Nat} (h : 0 ≤ ss g ∧ ss g ≤ 20) (hs : 0 ≤ sum ∧ sum ≤ 20) : 0 ≤ zDst near ss sum g ∧ zDst near ss sum g ≤ 99 := by
  have := zOff_in (o := g) h hs
  unfold zDst; split <;> omega
theorem zFar_in {near : Int} {ss : Int → Int} {n : Nat} {sum : Int} {p : Nat → Bool} (hS : zOkS ss n) (hs : 0 ≤ sum ∧ sum ≤ 20) : ∀ k, k ≤ n → (-1 ≤ (zFar near ss sum p k).1 ∧ (zFar near ss sum p k).1 ≤ 99) ∧ (zFar near ss sum p k).2 < 2 ^ k
  | 0, _ => by show (-1 ≤ (-1 : Int) ∧ (-1 : Int) ≤ 99) ∧ 0 < 1; omega
  | k + 1, hk => by
    have h1 := zFar_in (near := near) (p := p) hS hs k (by omega)
    have h2 := zDst_in (near := near) (hS k (by omega)) hs
    have h3 : 2 ^ (k + 1) = 2 ^ k + 2 ^ k := by rw [Nat.pow_succ]; omega
    unfold zFar
    split
    · split
      · show (-1 ≤ zDst near ss sum k ∧ zDst near ss sum k ≤ 99) ∧ 2 ^ k < 2 ^ (k + 1)
        have : 0 < 2 ^ k := Nat.two_pow_pos k
        omega
      · split
        · show (-1 ≤ (zFar near ss sum p k).1 ∧ (zFar near ss sum p k).1 ≤ 99) ∧ (zFar near ss sum p k).2 + 2 ^ k < 2 ^ (k + 1)
          omega
        · omega
    · omega
def zLst (p : Nat → Bool) (s0 : Int) : Nat → Int
  | 0 => s0
  | k + 1 => if p k = true then ((2 ^ k : Nat) : Int) else zLst p s0 k
def zFst (ss : Int → Int) (ties sum : Int) (p : Nat → Bool) : Nat → Int
  | 0 => -1
  | k + 1 => if p k = true ∧ (zFst ss ties sum p k < 0 ∨ zOff ss sum (zFst ss ties sum p k).toNat < zOff ss sum k ∨ (ties = 2 ∧ zOff ss sum k = zOff ss sum (zFst ss ties sum p k).toNat)) then (k : Int) else zFst ss ties sum p k
theorem zFst_in {ss : Int → Int} {ties sum : Int} {p : Nat → Bool} : ∀ k, -1 ≤ zFst ss ties sum p k ∧ zFst ss ties sum p k < (k : Int)
  | 0 => by show (-1 : Int) ≤ -1 ∧ (-1 : Int) < 0; omega
  | k + 1 => by
    have h := zFst_in (ss := ss) (ties := ties) (sum := sum) (p := p) k
    unfold zFst; split <;> omega
section M3
variable {w ks ss : Int → Int} {n : Nat} {la su nm np ns : Int → Int} {sz : Nat} {tp : Int → Int} {tn pl : Nat} {rs : Int} {rd : Int → Int} {lp ik : Int} {kp : Int → Int} {km kn : Int} {ln rz it : Int → Int}
theorem c_Mo_oneOf {x : Int} {p : Nat → Bool} (hx : -2147483648 ≤ x ∧ x ≤ 2147483647) (hp : ∀ k, k < 9 → (zBit x k ↔ p k = true)) (hla : 0 ≤ la 1 ∧ la 1 ≤ 2) :
    zMet m_Mo_oneOf [.inr (.inr 0), .inl x] (wMo w ks ss n la su nm np ns sz tp tn pl rs rd lp ik kp km kn ln rz it) (fun v wd => v = some (.inl (if la 1 = 2 then zLst p (z_and x (-x)) 9 else z_and x (-x))) ∧ wd = wMo w ks ss n la su nm np ns sz tp tn pl rs rd lp ik kp km kn ln rz it) := by
  refine zMet.of (own := RX7) rfl (by decide +kernel) tk_Mo_oneOf fok_Mo cok_Mo (Nat.le_of_ble_eq_true rfl) (fun G hG => ?_)
  refine hG.1 [10] 80 _ _ _ _ ?_
  refine z_up0 (n := 9) (P := fun i : Nat => G 10 [(0, .inr (.inr 0)), (1, .inl x), (2, .inl (z_and x (-x))), (3, .inl (zLst p (z_and x (-x)) i)), (4, .inl (i : Int))] [] (wMo w ks ss n la su nm np ns sz tp tn pl rs rd lp ik kp km kn ln rz it)) ?_ (fun i hi ih => ?_)
  · refine hG.1 [] 80 _ _ _ _ ?_
    refine ⟨by omega, fun q => ?_, fun q => absurd q (by omega)⟩
    refine ⟨by omega, by omega, fun h1 => ?_, fun h1 => ?_⟩
    · exact ⟨trivial, by rw [if_neg h1], rfl⟩
    · exact ⟨trivial, by rw [if_pos h1], rfl⟩
  · have e : zLst p (z_and x (-x)) (i + 1) = if p i = true then ((2 ^ i : Nat) : Int) else zLst p (z_and x (-x)) i := rfl
    refine hG.1 [10] 80 _ _ _ _ ?_
    refine ⟨by omega, fun q => absurd q (by omega), fun q => ?_⟩
    refine hG.2.2.1 (c_Mo_has (x := x) (g := i) hx (by omega)) ys_Mo_has (Or.inl lk_Mo_129) (by decide +kernel) rfl [] (by decide +kernel) rfl rfl rfl (Nat.le_of_ble_eq_true rfl) (fun v w2 hv hl2 => ?_)
    obtain ⟨⟨hc, rfl⟩ | ⟨hc, rfl⟩, rfl⟩ := hv
    · change G _ _ _ (wMo w ks ss n la su nm np ns sz tp tn pl rs rd lp ik kp km kn ln rz it)
      rw [e, if_pos ((hp i hi).mp hc), ← z_p2 i (by omega)] at ih
      refine hG.1 [10] 80 _ _ _ _ ?_
      refine ⟨by omega, fun q => absurd q (by omega), fun q => ?_⟩
      exact ⟨by omega, ih⟩
    · change G _ _ _ (wMo w ks ss n la su nm np ns sz tp tn pl rs rd lp ik kp km kn ln rz it)
      rw [e, if_neg (fun z => hc ((hp i hi).mpr z))] at ih
      refine hG.1 [10] 80 _ _ _ _ ?_
      refine ⟨by omega, fun q => ?_, fun q => absurd rfl q⟩
      exact ih
theorem c_Mo_firstOff {x sum : Int} {p : Nat → Bool} (hx : -2147483648 ≤ x ∧ x ≤ 2147483647) (hp : ∀ k, k < 9 → (zBit x k ↔ p k = true)) (hn : n ≤ 9) (hS : zOkS ss n) (hs : 0 ≤ sum ∧ sum ≤ 20) (hla : 0 ≤ la 1 ∧ la 1 ≤ 2) :
    zMet m_Mo_firstOff [.inr (.inr 0), .inl x, .inl sum] (wMo w ks ss n la su nm np ns sz tp tn pl rs rd lp ik kp km kn ln rz it) (fun v wd => v = some (.inl (zFst ss (la 1) sum p n)) ∧ wd = wMo w ks ss n la su nm np ns sz tp tn pl rs rd lp ik kp km kn ln rz it) := by
  refine zMet.of (own := RX7) rfl (by decide +kernel) tk_Mo_firstOff fok_Mo cok_Mo (Nat.le_of_ble_eq_true rfl) (fun G hG => ?_)
  refine hG.1 [5] 80 _ _ _ _ ?_
  refine z_up0 (n := n) (P := fun i : Nat => G 5 [(0, .inr (.inr 0)), (1, .inl x), (2, .inl sum), (3, .inl (zFst ss (la 1) sum p i)), (4, .inl (i : Int))] [] (wMo w ks ss n la su nm np ns sz tp tn pl rs rd lp ik kp km kn ln rz it)) ?_ (fun i hi ih => ?_)
  · refine hG.1 [] 80 _ _ _ _ ?_
    refine ⟨by omega, fun q => ?_, fun q => absurd q (by omega)⟩
    exact ⟨trivial, rfl, rfl⟩
  · have hin := zFst_in (ss := ss) (ties := la 1) (sum := sum) (p := p) i
    have hoi := zOff_in (o := i) (hS i hi) hs
    have e : zFst ss (la 1) sum p (i + 1) = if p i = true ∧ (zFst ss (la 1) sum p i < 0 ∨ zOff ss sum (zFst ss (la 1) sum p i).toNat < zOff ss sum i ∨ (la 1 = 2 ∧ zOff ss sum i = zOff ss sum (zFst ss (la 1) sum p i).toNat)) then (i : Int) else zFst ss (la 1) sum p i := rfl
    have t1 : (zFst ss (la 1) sum p i < 0 ∨ zOff ss sum (zFst ss (la 1) sum p i).toNat < zOff ss sum i ∨ (la 1 = 2 ∧ zOff ss sum i = zOff ss sum (zFst ss (la 1) sum p i).toNat)) → G 60 [(0, .inr (.inr 0)), (1, .inl x), (2, .inl sum), (3, .inl (zFst ss (la 1) sum p i)), (4, .inl (i : Int))] [] (wMo w ks ss n la su nm np ns sz tp tn pl rs rd lp ik kp km kn ln rz it) := by
      intro hh
      refine hG.1 [5] 80 _ _ _ _ ?_
      refine hG.2.2.1 (c_Mo_has (x := x) (g := i) hx (by omega)) ys_Mo_has (Or.inl lk_Mo_129) (by decide +kernel) rfl [] (by decide +kernel) rfl rfl rfl (Nat.le_of_ble_eq_true rfl) (fun v w2 hv hl2 => ?_)
      obtain ⟨⟨hc, rfl⟩ | ⟨hc, rfl⟩, rfl⟩ := hv
      · change G _ _ _ (wMo w ks ss n la su nm np ns sz tp tn pl rs rd lp ik kp km kn ln rz it)
        rw [e, if_pos ⟨(hp i (by omega)).mp hc, hh⟩] at ih
        refine hG.1 [5] 80 _ _ _ _ ?_
        refine ⟨by omega, fun q => absurd q (by omega), fun q => ?_⟩
        refine ⟨by omega, fun q => absurd q (by omega), fun q => ?_⟩
        exact hG.2.2.2.2.1 (fun q hq => List.mem_append_left _ hq) ih
      · change G _ _ _ (wMo w ks ss n la su nm np ns sz tp tn pl rs rd lp ik kp km kn ln rz it)
        rw [e, if_neg (fun z => hc ((hp i (by omega)).mpr z.1))] at ih
        refine hG.1 [5] 80 _ _ _ _ ?_
        refine ⟨by omega, fun q => ?_, fun q => absurd rfl q⟩
        exact hG.2.2.2.2.1 (fun q hq => List.mem_append_left _ hq) ih
    have t0 : ¬ (zFst ss (la 1) sum p i < 0 ∨ zOff ss sum (zFst ss (la 1) sum p i).toNat < zOff ss sum i ∨ (la 1 = 2 ∧ zOff ss sum i = zOff ss sum (zFst ss (la 1) sum p i).toNat)) → G 64 [(0, .inr (.inr 0)), (1, .inl x), (2, .inl sum), (3, .inl (zFst ss (la 1) sum p i)), (4, .inl (i : Int))] [] (wMo w ks ss n la su nm np ns sz tp tn pl rs rd lp ik kp km kn ln rz it) := by
      intro hh
      rw [e, if_neg (fun z => hh z.2)] at ih
      refine hG.1 [5] 80 _ _ _ _ ?_
      refine hG.2.2.1 (c_Mo_has (x := x) (g := i) hx (by omega)) ys_Mo_has (Or.inl lk_Mo_129) (by decide +kernel) rfl [] (by decide +kernel) rfl rfl rfl (Nat.le_of_ble_eq_true rfl) (fun v w2 hv hl2 => ?_)
      obtain ⟨⟨hc, rfl⟩ | ⟨hc, rfl⟩, rfl⟩ := hv
      · change G _ _ _ (wMo w ks ss n la su nm np ns sz tp tn pl rs rd lp ik kp km kn ln rz it)
        refine hG.1 [5] 80 _ _ _ _ ?_
        refine ⟨by omega, fun q => absurd q (by omega), fun q => ?_⟩
        refine ⟨by omega, fun q => ?_, fun q => absurd rfl q⟩
        exact hG.2.2.2.2.1 (fun q hq => List.mem_append_left _ hq) ih
      · change G _ _ _ (wMo w ks ss n la su nm np ns sz tp tn pl rs rd lp ik kp km kn ln rz it)
        refine hG.1 [5] 80 _ _ _ _ ?_
        refine ⟨by omega, fun q => ?_, fun q => absurd rfl q⟩
        exact hG.2.2.2.2.1 (fun q hq => List.mem_append_left _ hq) ih
    clear ih
    by_cases hneg : zFst ss (la 1) sum p i < 0
    · have t1' := t1 (Or.inl hneg)
      refine hG.1 [60] 80 _ _ _ _ ?_
      refine ⟨by omega, fun q => absurd q (by omega), fun q => ?_⟩
      exact ⟨by omega, fun _ => t1', fun q => absurd q (by omega)⟩
    · obtain ⟨j, hj⟩ := z_nat (show 0 ≤ zFst ss (la 1) sum p i by omega)
      rw [hj, Int.toNat_natCast] at t1 t0
      rw [hj] at hin hneg ⊢
      have hoj := zOff_in (o := j) (hS j (by omega)) hs
      refine hG.1 [60, 64] 80 _ _ _ _ ?_
      refine ⟨by omega, fun q => absurd q (by omega), fun q => ?_⟩
      refine ⟨by omega, fun q => absurd q (by omega), fun q => ?_⟩
      refine hG.2.1 (c_Mo_off (g := i) (sum := sum) (by omega) (hS i hi) hs) yv_Mo_off lk_Mo_133 (by decide +kernel) rfl rfl [0, 1, 2, 3, 4, 5, 6, 7, 8, 9, 10, 11, 12, 13, 14] (by decide +kernel) rfl rfl rfl (Nat.le_of_ble_eq_true rfl) (fun v w2 hv hl2 => ?_)
      obtain ⟨rfl, rfl⟩ := hv
      change G _ _ _ (wMo w ks ss n la su nm np ns sz tp tn pl rs rd lp ik kp km kn ln rz it)
      refine hG.1 [60, 64] 80 _ _ _ _ ?_
      refine hG.2.1 (c_Mo_off (g := j) (sum := sum) (by omega) (hS j (by omega)) hs) yv_Mo_off lk_Mo_133 (by decide +kernel) rfl rfl [0, 1, 2, 3, 4, 5, 6, 7, 8, 9, 10, 11, 12, 13, 14] (by decide +kernel) rfl rfl rfl (Nat.le_of_ble_eq_true rfl) (fun v w2 hv hl2 => ?_)
      obtain ⟨rfl, rfl⟩ := hv
      change G _ _ _ (wMo w ks ss n la su nm np ns sz tp tn pl rs rd lp ik kp km kn ln rz it)
      refine hG.1 [60, 64] 80 _ _ _ _ ?_
      refine ⟨by omega, fun h1 => ?_, fun h1 => ?_⟩
      · exact t1 (Or.inr (Or.inl h1))
      · refine ⟨by omega, by omega, fun h2 => ?_, fun h2 => ?_⟩
        · exact t0 (fun z => by omega)
        · refine hG.2.1 (c_Mo_off (g := i) (sum := sum) (by omega) (hS i hi) hs) yv_Mo_off lk_Mo_133 (by decide +kernel) rfl rfl [0, 1, 2, 3, 4, 5, 6, 7, 8, 9, 10, 11, 12, 13, 14] (by decide +kernel) rfl rfl rfl (Nat.le_of_ble_eq_true rfl) (fun v w2 hv hl2 => ?_)
          obtain ⟨rfl, rfl⟩ := hv
          change G _ _ _ (wMo w ks ss n la su nm np ns sz tp tn pl rs rd lp ik kp km kn ln rz it)
          refine hG.1 [60, 64] 80 _ _ _ _ ?_
          refine hG.2.1 (c_Mo_off (g := j) (sum := sum) (by omega) (hS j (by omega)) hs) yv_Mo_off lk_Mo_133 (by decide +kernel) rfl rfl [0, 1, 2, 3, 4, 5, 6, 7, 8, 9, 10, 11, 12, 13, 14] (by decide +kernel) rfl rfl rfl (Nat.le_of_ble_eq_true rfl) (fun v w2 hv hl2 => ?_)
          obtain ⟨rfl, rfl⟩ := hv
          change G _ _ _ (wMo w ks ss n la su nm np ns sz tp tn pl rs rd lp ik kp km kn ln rz it)
          refine hG.1 [60, 64] 80 _ _ _ _ ?_
          refine ⟨by omega, fun h3 => ?_, fun h3 => ?_⟩
          · exact t0 (fun z => by omega)
          · exact t1 (Or.inr (Or.inr ⟨h2, h3⟩))
end M3
