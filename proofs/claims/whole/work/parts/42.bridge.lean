/-! THE BRIDGE: who pays, by the class's shares and by the reference's sets -/
def zCt (p : Nat → Bool) : Nat → Nat
  | 0 => 0
  | k + 1 => zCt p k + (if p k = true then 1 else 0)
theorem zCt_le (p : Nat → Bool) : ∀ n, zCt p n ≤ n
  | 0 => Nat.le_refl _
  | n + 1 => by have := zCt_le p n; unfold zCt; split <;> omega
theorem zCt_cong {p q : Nat → Bool} : ∀ {n : Nat}, (∀ k, k < n → p k = q k) → zCt p n = zCt q n
  | 0, _ => rfl
  | n + 1, h => by
    have h1 := zCt_cong (n := n) (fun k hk => h k (by omega))
    unfold zCt
    rw [h1, h n (by omega)]
theorem zCt_0 {p : Nat → Bool} : ∀ {n : Nat}, (∀ k, k < n → p k = false) → zCt p n = 0
  | 0, _ => rfl
  | n + 1, h => by
    have h1 := zCt_0 (n := n) (fun k hk => h k (by omega))
    unfold zCt
    rw [h1, h n (by omega)]
    rfl
theorem zCt_rem {p : Nat → Bool} {g : Nat} (hp : p g = true) : ∀ {n : Nat}, g < n → zCt p n = zCt (fun o => decide (o ≠ g) && p o) n + 1
  | 0, h => absurd h (Nat.not_lt_zero _)
  | n + 1, h => by
    by_cases hg : g = n
    · subst hg
      have h1 : zCt p g = zCt (fun o => decide (o ≠ g) && p o) g := zCt_cong (fun k hk => by
        show p k = (decide (k ≠ g) && p k)
        rw [decide_eq_true (show k ≠ g by omega), Bool.true_and])
      unfold zCt
      rw [← h1, if_pos hp, if_neg (by simp)]
    · have h1 := zCt_rem hp (n := n) (by omega)
      unfold zCt
      rw [h1]
      have h2 : (decide (n ≠ g) && p n) = p n := by rw [decide_eq_true (show n ≠ g by omega), Bool.true_and]
      rw [h2]
      omega
theorem zCt_lt {p q : Nat → Bool} (hs : ∀ k, p k = true → q k = true) {g : Nat} (hq : q g = true) (hp : p g = false) : ∀ {n : Nat}, g < n → zCt p n < zCt q n := by
  have hle : ∀ n, zCt p n ≤ zCt q n := by
    intro n
    induction n with
    | zero => exact Nat.le_refl _
    | succ n ih =>
      unfold zCt
      by_cases h : p n = true
      · rw [if_pos h, if_pos (hs n h)]; omega
      · rw [if_neg h]; split <;> omega
  intro n hn
  induction n with
  | zero => omega
  | succ n ih =>
    unfold zCt
    by_cases hg : g = n
    · subst hg
      have := hle g
      rw [if_neg (by rw [hp]; simp), if_pos hq]; omega
    · have := ih (by omega)
      by_cases h : p n = true
      · rw [if_pos h, if_pos (hs n h)]; omega
      · rw [if_neg h]; split <;> omega
theorem zCt_all : ∀ n, zCt (fun _ => true) n = n
  | 0 => rfl
  | n + 1 => by
    have := zCt_all n
    show zCt (fun _ => true) n + 1 = n + 1
    rw [this]
theorem zFirstEx {p : Nat → Bool} : ∀ {n : Nat}, (∃ g, g < n ∧ p g = true) → ∃ j, j < n ∧ p j = true ∧ ∀ i, i < j → p i = false
  | 0, ⟨g, h, _⟩ => absurd h (Nat.not_lt_zero _)
  | n + 1, ⟨g, h, hp⟩ => by
    rcases Classical.em (∃ g, g < n ∧ p g = true) with q | q
    · obtain ⟨j, h1, h2, h3⟩ := zFirstEx q
      exact ⟨j, by omega, h2, h3⟩
    · refine ⟨g, h, hp, fun i hi => ?_⟩
      cases hpi : p i with
      | false => rfl
      | true => exact absurd ⟨i, by omega, hpi⟩ q
theorem zLastEx {p : Nat → Bool} : ∀ {n : Nat}, (∃ g, g < n ∧ p g = true) → ∃ j, j < n ∧ p j = true ∧ ∀ i, j < i → i < n → p i = false
  | 0, ⟨g, h, _⟩ => absurd h (Nat.not_lt_zero _)
  | n + 1, ⟨g, h, hp⟩ => by
    cases hn : p n with
    | true => exact ⟨n, by omega, hn, fun i h1 h2 => by omega⟩
    | false =>
      have hg : g ≠ n := fun z => by rw [z, hn] at hp; cases hp
      obtain ⟨j, h1, h2, h3⟩ := zLastEx (n := n) ⟨g, by omega, hp⟩
      refine ⟨j, by omega, h2, fun i h4 h5 => ?_⟩
      by_cases hi : i = n
      · rw [hi]; exact hn
      · exact h3 i h4 (by omega)
-- masks
theorem zMask_cong {p q : Nat → Bool} : ∀ {n : Nat}, (∀ k, k < n → p k = q k) → zMaskN p n = zMaskN q n
  | 0, _ => rfl
  | n + 1, h => by
    have h1 := zMask_cong (n := n) (fun k hk => h k (by omega))
    unfold zMaskN
    rw [h1, h n (by omega)]
theorem zMask_0 {p : Nat → Bool} : ∀ {n : Nat}, (∀ k, k < n → p k = false) → zMaskN p n = 0
  | 0, _ => rfl
  | n + 1, h => by
    have h1 := zMask_0 (n := n) (fun k hk => h k (by omega))
    unfold zMaskN
    rw [h1, h n (by omega)]
    rfl
theorem zMask_tb (p : Nat → Bool) : ∀ n k, (zMaskN p n).testBit k = (decide (k < n) && p k)
  | 0, k => by
    show (0 : Nat).testBit k = _
    rw [Nat.zero_testBit, decide_eq_false (Nat.not_lt_zero k), Bool.false_and]
  | n + 1, k => by
    have h1 := zMask_tb p n k
    have h2 := zMaskN_lt p n
    by_cases hp : p n = true
    · have e : zMaskN p (n + 1) = 2 ^ n + zMaskN p n := by
        show zMaskN p n + (if p n = true then 2 ^ n else 0) = _
        rw [if_pos hp, Nat.add_comm]
      rw [e]
      rcases Nat.lt_trichotomy k n with h | h | h
      · rw [Nat.testBit_two_pow_add_gt h, h1, decide_eq_true h, decide_eq_true (show k < n + 1 by omega)]
      · subst h
        rw [Nat.testBit_two_pow_add_eq, Nat.testBit_lt_two_pow h2, hp, decide_eq_true (show k < k + 1 by omega)]
        rfl
      · rw [decide_eq_false (show ¬ k < n + 1 by omega), Bool.false_and]
        refine Nat.testBit_lt_two_pow (Nat.lt_of_lt_of_le ?_ (Nat.pow_le_pow_right (show 0 < 2 by omega) (show n + 1 ≤ k by omega)))
        rw [Nat.pow_succ]; omega
    · have e : zMaskN p (n + 1) = zMaskN p n := by
        show zMaskN p n + (if p n = true then 2 ^ n else 0) = _
        rw [if_neg hp, Nat.add_zero]
      rw [e, h1]
      rcases Nat.lt_trichotomy k n with h | h | h
      · rw [decide_eq_true h, decide_eq_true (show k < n + 1 by omega)]
      · subst h
        have hp2 : p k = false := by simpa using hp
        rw [hp2, Bool.and_false, Bool.and_false]
      · rw [decide_eq_false (show ¬ k < n by omega), decide_eq_false (show ¬ k < n + 1 by omega)]
theorem zMask_one {p : Nat → Bool} {n j : Nat} (hj : j < n) (h : ∀ k, k < n → (p k = true ↔ k = j)) : zMaskN p n = 2 ^ j := by
  refine Nat.eq_of_testBit_eq (fun k => ?_)
  rw [zMask_tb, Nat.testBit_two_pow]
  by_cases hk : k < n
  · rw [decide_eq_true hk, Bool.true_and]
    by_cases e : k = j
    · rw [(h k hk).mpr e, decide_eq_true e.symm]
    · rw [decide_eq_false (fun z => e z.symm)]
      cases hp : p k with
      | false => rfl
      | true => exact absurd ((h k hk).mp hp) e
  · rw [decide_eq_false hk, decide_eq_false (show ¬ j = k by omega), Bool.false_and]
theorem zBit_tb : ∀ m, m < 512 → ∀ k, k < 9 → (zBit ((m : Nat) : Int) k ↔ m.testBit k = true) := by decide +kernel
theorem zBit_mask {p : Nat → Bool} {n k : Nat} (hn : n ≤ 9) (hk : k < 9) : zBit ((zMaskN p n : Nat) : Int) k ↔ (k < n ∧ p k = true) := by
  rw [zBit_tb _ (zMask9 hn) k hk, zMask_tb, Bool.and_eq_true, decide_eq_true_iff]
theorem zPop_add : ∀ n, n < 9 → ∀ a, a < 2 ^ n → zPop 9 (a + 2 ^ n) = zPop 9 a + 1 := by decide +kernel
theorem zPop_mask {p : Nat → Bool} : ∀ {n : Nat}, n ≤ 9 → zPop 9 (zMaskN p n) = zCt p n
  | 0, _ => by
    show zPop 9 0 = 0
    decide
  | n + 1, h => by
    have h1 := zPop_mask (p := p) (n := n) (by omega)
    unfold zMaskN zCt
    split
    · rw [zPop_add n (by omega) _ (zMaskN_lt p n), h1]
    · rw [Nat.add_zero, h1, Nat.add_zero]
theorem zLow9 : ∀ m, m < 512 → ∀ j, j < 9 → m.testBit j = true → (∀ i, i < j → m.testBit i = false) → z_and ((m : Nat) : Int) (-((m : Nat) : Int)) = ((2 ^ j : Nat) : Int) := by decide +kernel
theorem zLst_at {p : Nat → Bool} {s0 : Int} {j : Nat} (hp : p j = true) : ∀ {k : Nat}, j < k → (∀ i, j < i → i < k → p i = false) → zLst p s0 k = ((2 ^ j : Nat) : Int)
  | 0, h, _ => absurd h (Nat.not_lt_zero _)
  | k + 1, h, h2 => by
    unfold zLst
    by_cases e : j = k
    · subst e; rw [if_pos hp]
    · rw [h2 k (by omega) (by omega), if_neg (by simp)]
      exact zLst_at hp (by omega) (fun i h3 h4 => h2 i h3 (by omega))
-- the greatest distance
theorem zFar_max {near : Int} {ss : Int → Int} {sum : Int} {p : Nat → Bool} {n : Nat} (hd : ∀ g, g < n → 0 ≤ zDst near ss sum g) : ∀ k, k ≤ n →
    (∀ g, g < k → p g = true → zDst near ss sum g ≤ (zFar near ss sum p k).1) ∧
    ((∃ g, g < k ∧ p g = true) → ∃ g, g < k ∧ p g = true ∧ zDst near ss sum g = (zFar near ss sum p k).1) ∧
    (¬ (∃ g, g < k ∧ p g = true) → (zFar near ss sum p k).1 = -1) ∧
    (zFar near ss sum p k).2 = zMaskN (fun g => p g && decide (zDst near ss sum g = (zFar near ss sum p k).1)) k
  | 0, _ => ⟨fun g h => absurd h (Nat.not_lt_zero _), fun ⟨g, h, _⟩ => absurd h (Nat.not_lt_zero _), fun _ => rfl, rfl⟩
  | k + 1, hk => by
    obtain ⟨a1, a2, a3, a4⟩ := zFar_max (p := p) hd k (by omega)
    have hdk := hd k (by omega)
    have e : zFar near ss sum p (k + 1) = if p k = true then (if (zFar near ss sum p k).1 < zDst near ss sum k then (zDst near ss sum k, 2 ^ k) else if zDst near ss sum k = (zFar near ss sum p k).1 then ((zFar near ss sum p k).1, (zFar near ss sum p k).2 + 2 ^ k) else zFar near ss sum p k) else zFar near ss sum p k := rfl
    generalize zFar near ss sum p k = F at a1 a2 a3 a4 e
    by_cases hp : p k = true
    · rw [if_pos hp] at e
      by_cases h1 : F.1 < zDst near ss sum k
      · rw [if_pos h1] at e
        rw [e]
        refine ⟨fun g hg hpg => ?_, fun _ => ⟨k, by omega, hp, rfl⟩, fun h => absurd ⟨k, by omega, hp⟩ h, ?_⟩
        · by_cases hgk : g = k
          · rw [hgk]; exact Int.le_refl _
          · have := a1 g (by omega) hpg
            show _ ≤ zDst near ss sum k
            omega
        · have hc : (p k && decide (zDst near ss sum k = zDst near ss sum k)) = true := by simp [hp]
          have h0 : zMaskN (fun g => p g && decide (zDst near ss sum g = zDst near ss sum k)) k = 0 := zMask_0 (fun g hg => by
            cases hpg : p g with
            | false => exact Bool.false_and _
            | true =>
              have := a1 g (by omega) hpg
              rw [decide_eq_false (show ¬ zDst near ss sum g = zDst near ss sum k by omega), Bool.and_false])
          show 2 ^ k = zMaskN (fun g => p g && decide (zDst near ss sum g = zDst near ss sum k)) k + (if (p k && decide (zDst near ss sum k = zDst near ss sum k)) = true then 2 ^ k else 0)
          rw [if_pos hc, h0, Nat.zero_add]
      · rw [if_neg h1] at e
        by_cases h2 : zDst near ss sum k = F.1
        · rw [if_pos h2] at e
          rw [e]
          refine ⟨fun g hg hpg => ?_, fun _ => ⟨k, by omega, hp, h2⟩, fun h => absurd ⟨k, by omega, hp⟩ h, ?_⟩
          · by_cases hgk : g = k
            · rw [hgk]; exact Int.le_of_eq h2
            · exact a1 g (by omega) hpg
          · show F.2 + 2 ^ k = zMaskN (fun g => p g && decide (zDst near ss sum g = F.1)) k + (if (p k && decide (zDst near ss sum k = F.1)) = true then 2 ^ k else 0)
            have hc : (p k && decide (zDst near ss sum k = F.1)) = true := by simp [hp, h2]
            rw [if_pos hc, ← a4]
        · rw [if_neg h2] at e
          rw [e]
          have hex : ∃ g, g < k ∧ p g = true := Classical.byContradiction fun z => by
            have := a3 z; omega
          obtain ⟨g0, b1, b2, b3⟩ := a2 hex
          refine ⟨fun g hg hpg => ?_, fun _ => ⟨g0, by omega, b2, b3⟩, fun h => absurd ⟨k, by omega, hp⟩ h, ?_⟩
          · by_cases hgk : g = k
            · rw [hgk]; omega
            · exact a1 g (by omega) hpg
          · show F.2 = zMaskN (fun g => p g && decide (zDst near ss sum g = F.1)) k + (if (p k && decide (zDst near ss sum k = F.1)) = true then 2 ^ k else 0)
            have hc : ¬ (p k && decide (zDst near ss sum k = F.1)) = true := by simp [hp, h2]
            rw [if_neg hc, ← a4, Nat.add_zero]
    · rw [if_neg hp] at e
      rw [e]
      have hp2 : p k = false := by simpa using hp
      have hdown : ∀ g, g < k + 1 → p g = true → g < k := fun g hg hpg => by
        by_cases hgk : g = k
        · rw [hgk] at hpg; exact absurd hpg hp
        · omega
      refine ⟨fun g hg hpg => a1 g (hdown g hg hpg) hpg, fun ⟨g, hg, hpg⟩ => ?_, fun h => a3 (fun ⟨g, hg, hpg⟩ => h ⟨g, by omega, hpg⟩), ?_⟩
      · obtain ⟨g0, b1, b2, b3⟩ := a2 ⟨g, hdown g hg hpg, hpg⟩
        exact ⟨g0, by omega, b2, b3⟩
      · show F.2 = zMaskN (fun g => p g && decide (zDst near ss sum g = F.1)) k + (if (p k && decide (zDst near ss sum k = F.1)) = true then 2 ^ k else 0)
        have hc : ¬ (p k && decide (zDst near ss sum k = F.1)) = true := by simp [hp2]
        rw [if_neg hc, ← a4, Nat.add_zero]
