/-! COMPANY: shares, payers, writing, copies -/
theorem z_bits1 : ∀ g, g < 12 → ∀ m, m < 2 ^ g → z_or (m : Nat) (1 * 2 ^ ((g : Nat) : Int).toNat) = ((m + 2 ^ g : Nat) : Int) := by decide +kernel
def zMaskN (p : Nat → Bool) : Nat → Nat
  | 0 => 0
  | k + 1 => zMaskN p k + (if p k = true then 2 ^ k else 0)
theorem zMaskN_lt (p : Nat → Bool) : ∀ k, zMaskN p k < 2 ^ k
  | 0 => Nat.zero_lt_one
  | k + 1 => by
    have := zMaskN_lt p k
    rw [Nat.pow_succ]
    unfold zMaskN; split <;> omega
noncomputable def zPay (ss : Int → Int) (n : Nat) (who ties sum : Int) : Nat → Bool := fun g => decide (0 < zSh ss n who ties sum g (zFree ss n who))
def zAlone (ks ss : Int → Int) (sum mean : Int) (j : Int) : Int := if ks j = 1 then mean else if ks j = 2 then 0 else if ks j = 3 then sum else ss j
def zWr (ks ss : Int → Int) (sum mean : Int) (i : Nat) : Int → Int := fun j => if 0 ≤ j ∧ j < (i : Int) then zAlone ks ss sum mean j else ss j
def zChgN (ks ss : Int → Int) (sum mean : Int) : Nat → Nat
  | 0 => 0
  | k + 1 => zChgN ks ss sum mean k + (if zAlone ks ss sum mean k = ss k then 0 else 1)
theorem zWr_put (ks ss : Int → Int) (sum mean : Int) (i : Nat) : z_u (zWr ks ss sum mean i) i (zAlone ks ss sum mean i) = zWr ks ss sum mean (i + 1) := by
  funext j
  unfold z_u zWr
  by_cases h : j = (i : Int)
  · subst h; rw [if_pos rfl, if_pos (by omega)]
  · rw [if_neg h]
    by_cases h2 : 0 ≤ j ∧ j < (i : Int)
    · rw [if_pos h2, if_pos (by omega)]
    · rw [if_neg h2, if_neg (by omega)]
theorem zWr_keep {ks ss : Int → Int} {sum mean : Int} {i : Nat} (h : zAlone ks ss sum mean i = ss i) : zWr ks ss sum mean i = zWr ks ss sum mean (i + 1) := by
  rw [← zWr_put]
  funext j
  unfold z_u
  by_cases hj : j = (i : Int)
  · subst hj; rw [if_pos rfl, h, zWr, if_neg (by omega)]
  · rw [if_neg hj]
theorem zWr_0 (ks ss : Int → Int) (sum mean : Int) : zWr ks ss sum mean 0 = ss := by
  funext j; unfold zWr; rw [if_neg (by omega)]
theorem zWr_at (ks ss : Int → Int) (sum mean : Int) (i : Nat) : zWr ks ss sum mean i i = ss i := by
  unfold zWr; rw [if_neg (by omega)]
abbrev wCo2 (ks ss : Int → Int) (n : Nat) (who ties : Int) (ks' ss' : Int → Int) (n' : Nat) (who' ties' : Int) : zW := [.inl (0, [.inr (.inr 1), .inr (.inr 2), .inl (n : Int), .inl who, .inl ties]), .inr (0, (9, .inl ks)), .inr (0, (9, .inl ss)), .inl (0, [.inr (.inr 4), .inr (.inr 5), .inl (n' : Int), .inl who', .inl ties']), .inr (0, (9, .inl ks')), .inr (0, (9, .inl ss'))]
section Co3
variable {ks ss : Int → Int} {n : Nat} {who ties : Int}
theorem c_Co_shareOfMost {g : Nat} {sum free : Int} (hg : g < n) (hn : n ≤ 9) (hw : 0 ≤ who ∧ who ≤ 3) (ht : 0 ≤ ties ∧ ties ≤ 2) (hs : ∀ j : Nat, j < n → 0 ≤ ss j ∧ ss j ≤ 20) (hsum : 0 ≤ sum ∧ sum ≤ 20) (hf : -1 ≤ free ∧ free ≤ 9) :
    zMet m_Co_shareOfMost [.inr (.inr 0), .inl g, .inl sum, .inl free] (wCo ks ss n who ties) (fun v w => v = some (.inl (zShMost ss n who ties sum g free)) ∧ w = wCo ks ss n who ties) := by
  have hsg := hs g hg
  have hog := zOff_in hsg hsum
  refine zMet.of (own := RX0) rfl (by decide +kernel) tk_Co_shareOfMost fok_Co cok_Co (Nat.le_of_ble_eq_true rfl) (fun G hG => ?_)
  refine hG.1 [] 80 _ _ _ _ ?_
  refine ⟨by omega, ?_⟩
  refine hG.2.2.1 (c_Ja_abs (x := ss g - sum) (by omega)) ys_Ja_abs (Or.inl lk_Co_70) (by decide +kernel) rfl [] (by decide +kernel) rfl rfl rfl (Nat.le_of_ble_eq_true rfl) (fun v w2 hv hl2 => ?_)
  obtain ⟨rfl, rfl⟩ := hv
  refine hG.1 [19] 80 _ _ _ _ ?_
  suffices L : ∀ i, i ≤ n → (¬ zBadN ss who ties sum g free i → G 19 [(0, .inr (.inr 0)), (1, .inl (g : Int)), (2, .inl sum), (3, .inl free), (4, .inl (zOff ss sum g)), (5, .inl (1 + (zAlikeN ss sum g free i : Int))), (6, .inl (i : Int))] [] (wCo ks ss n who ties)) from L 0 (by omega) (fun h => h)
  refine z_up (fun hb => ?_) (fun i hi ih hb => ?_)
  · have hle := zAlikeN_le ss sum g free n
    refine hG.1 [] 80 _ _ _ _ ?_
    refine ⟨by omega, fun h1 => ?_, fun h1 => absurd h1 (by omega)⟩
    refine ⟨by omega, fun h2 => ?_, fun h2 => ?_⟩
    · exact ⟨trivial, by rw [zShMost_good hb, if_neg h2], rfl⟩
    · exact ⟨by omega, trivial, by rw [zShMost_good hb, if_pos h2], rfl⟩
  · have hsi := hs i hi
    have hoi := zOff_in hsi hsum
    have e : zAlikeN ss sum g free (i + 1) = zAlikeN ss sum g free i + (if i ≠ g ∧ (i : Int) ≠ free ∧ zOff ss sum i = zOff ss sum g then 1 else 0) := rfl
    have hbd : zBadN ss who ties sum g free (i + 1) ↔ zBadN ss who ties sum g free i ∨ zBad ss who ties sum g free i := Iff.rfl
    have hout : zBad ss who ties sum g free i → zShMost ss n who ties sum g free = 0 := fun h => zShMost_bad (zBadN_iff.mpr ⟨i, hi, h⟩)
    have hgo : ¬ zBad ss who ties sum g free i → ¬ zBadN ss who ties sum g free (i + 1) := fun h q => q.elim hb h
    unfold zBad at hout hgo
    refine hG.1 [19] 80 _ _ _ _ ?_
    refine ⟨by omega, fun h1 => absurd h1 (by omega), fun h1 => ?_⟩
    refine ⟨by omega, fun h2 => ?_, fun h2 => ?_⟩
    · have ih := ih (hgo (by omega))
      rw [e, if_neg (by omega)] at ih
      exact ih
    · refine ⟨by omega, fun h3 => ?_, fun h3 => ?_⟩
      · refine ⟨by omega, ?_⟩
        refine hG.2.2.1 (c_Ja_abs (x := ss i - sum) (by omega)) ys_Ja_abs (Or.inl lk_Co_70) (by decide +kernel) rfl [] (by decide +kernel) rfl rfl rfl (Nat.le_of_ble_eq_true rfl) (fun v w2 hv hl2 => ?_)
        obtain ⟨rfl, rfl⟩ := hv
        have back : zAbs (ss i - sum) = zOff ss sum i := rfl
        rw [back]
        have tail : ((who = 1 ∧ zOff ss sum g ≤ zOff ss sum i) ∨ (who ≠ 1 ∧ zOff ss sum i ≤ zOff ss sum g)) → G 84 [(0, .inr (.inr 0)), (1, .inl (g : Int)), (2, .inl sum), (3, .inl free), (4, .inl (zOff ss sum g)), (5, .inl (1 + (zAlikeN ss sum g free i : Int))), (6, .inl (i : Int)), (7, .inl (zOff ss sum i))] [] (wCo ks ss n who ties) := by
          intro hc
          refine hG.1 [19] 80 _ _ _ _ ?_
          refine ⟨by omega, fun h5 => ?_, fun h5 => ?_⟩
          · have ih := ih (hgo (by omega))
            rw [e, if_neg (by omega)] at ih
            exact hG.2.2.2.2.1 (fun q hq => List.mem_append_left _ hq) ih
          · have fin : (¬ (ties = 0 ∧ i < g)) → (¬ (ties = 2 ∧ g < i)) → G 19 [(0, .inr (.inr 0)), (1, .inl (g : Int)), (2, .inl sum), (3, .inl free), (4, .inl (zOff ss sum g)), (5, .inl (1 + (zAlikeN ss sum g free i : Int) + 1)), (6, .inl ((i : Int) + 1)), (7, .inl (zOff ss sum i))] [] (wCo ks ss n who ties) := by
              intro a1 a2
              have ih := ih (hgo (by omega))
              rw [e, if_pos (by omega)] at ih
              exact hG.2.2.2.2.1 (fun q hq => List.mem_append_left _ hq) ih
            refine ⟨by omega, fun h6 => ?_, fun h6 => ?_⟩
            · refine ⟨by omega, fun h7 => ?_, fun h7 => ?_⟩
              · exact fin (by omega) (by omega)
              · refine ⟨by omega, fun h8 => ?_, fun h8 => ?_⟩
                · exact fin (by omega) (by omega)
                · exact ⟨trivial, by rw [hout (by omega)], rfl⟩
            · refine ⟨by omega, fun h7 => ?_, fun h7 => ?_⟩
              · exact ⟨trivial, by rw [hout (by omega)], rfl⟩
              · refine ⟨by omega, fun h8 => ?_, fun h8 => ?_⟩
                · exact fin (by omega) (by omega)
                · exact absurd h8 (by omega)
        refine hG.1 [84] 80 _ _ _ _ ?_
        refine ⟨by omega, fun h4 => ?_, fun h4 => ?_⟩
        · refine ⟨by omega, fun h5 => ?_, fun h5 => ?_⟩
          · exact tail (by omega)
          · exact ⟨trivial, by rw [hout (by omega)], rfl⟩
        · refine ⟨by omega, fun h5 => ?_, fun h5 => ?_⟩
          · exact tail (by omega)
          · exact ⟨trivial, by rw [hout (by omega)], rfl⟩
      · have ih := ih (hgo (by omega))
        rw [e, if_neg (by omega)] at ih
        exact ih
theorem c_Co_share {g : Nat} {sum free : Int} (hg : g < 100) (hn : n ≤ 9) (hw : 0 ≤ who ∧ who ≤ 3) (ht : 0 ≤ ties ∧ ties ≤ 2) (hs : ∀ j : Nat, j < n → 0 ≤ ss j ∧ ss j ≤ 20) (hsum : 0 ≤ sum ∧ sum ≤ 20) (hf : -1 ≤ free ∧ free ≤ 9) :
    zMet m_Co_share [.inr (.inr 0), .inl g, .inl sum, .inl free] (wCo ks ss n who ties) (fun v w => v = some (.inl (zSh ss n who ties sum g free)) ∧ w = wCo ks ss n who ties) := by
  refine zMet.of (own := RX0) rfl (by decide +kernel) tk_Co_share fok_Co cok_Co (Nat.le_of_ble_eq_true rfl) (fun G hG => ?_)
  refine hG.1 [] 80 _ _ _ _ ?_
  refine hG.2.1 (c_Co_has (g := (g : Int)) (by omega) hn) yv_Co_has lk_Co_28 (by decide +kernel) rfl rfl [0, 1, 2] (by decide +kernel) rfl rfl rfl (Nat.le_of_ble_eq_true rfl) (fun v w2 hv hl2 => ?_)
  obtain ⟨⟨hc, rfl⟩ | ⟨hc, rfl⟩, rfl⟩ := hv
  · refine hG.1 [] 80 _ _ _ _ ?_
    refine ⟨by omega, fun h1 => absurd h1 (by omega), fun h1 => ?_⟩
    refine ⟨by omega, fun h2 => ?_, fun h2 => ?_⟩
    · refine ⟨by omega, fun h3 => ?_, fun h3 => ?_⟩
      · refine hG.2.1 (c_Co_shareOfMost (by omega) hn hw ht hs hsum hf) yv_Co_shareOfMost lk_Co_67 (by decide +kernel) rfl rfl [0, 1, 2] (by decide +kernel) rfl rfl rfl (Nat.le_of_ble_eq_true rfl) (fun v w2 hv hl2 => ?_)
        obtain ⟨rfl, rfl⟩ := hv
        refine hG.1 [] 80 _ _ _ _ ?_
        exact ⟨trivial, by rw [zSh, if_neg (by omega), if_neg h3], rfl⟩
      · refine hG.2.1 (c_Co_shareOfTwo (by omega) hn ht hs hsum) yv_Co_shareOfTwo lk_Co_63 (by decide +kernel) rfl rfl [0, 1, 2] (by decide +kernel) rfl rfl rfl (Nat.le_of_ble_eq_true rfl) (fun v w2 hv hl2 => ?_)
        obtain ⟨rfl, rfl⟩ := hv
        refine hG.1 [] 80 _ _ _ _ ?_
        exact ⟨trivial, by rw [zSh, if_neg (by omega), if_pos h3], rfl⟩
    · exact ⟨trivial, by rw [zSh, if_pos (by omega)], rfl⟩
  · refine hG.1 [] 80 _ _ _ _ ?_
    refine ⟨by omega, fun h1 => ?_, fun h1 => absurd rfl h1⟩
    exact ⟨trivial, by rw [zSh, if_pos (by omega)], rfl⟩
theorem c_Co_due {g : Nat} {sum : Int} (hg : g < 100) (hn : n ≤ 9) (hw : 0 ≤ who ∧ who ≤ 3) (ht : 0 ≤ ties ∧ ties ≤ 2) (hs : ∀ j : Nat, j < n → 0 ≤ ss j ∧ ss j ≤ 20) (hsum : 0 ≤ sum ∧ sum ≤ 20) :
    zMet m_Co_due [.inr (.inr 0), .inl g, .inl sum] (wCo ks ss n who ties) (fun v w => v = some (.inl (sum * zSh ss n who ties sum g (zFree ss n who))) ∧ w = wCo ks ss n who ties) := by
  have hfr := zFree_in ss n who
  refine zMet.of (own := RX0) rfl (by decide +kernel) tk_Co_due fok_Co cok_Co (Nat.le_of_ble_eq_true rfl) (fun G hG => ?_)
  refine hG.1 [] 80 _ _ _ _ ?_
  refine hG.2.1 (c_Co_freeGuest hn hw hs) yv_Co_freeGuest lk_Co_53 (by decide +kernel) rfl rfl [0, 1, 2] (by decide +kernel) rfl rfl rfl (Nat.le_of_ble_eq_true rfl) (fun v w2 hv hl2 => ?_)
  obtain ⟨rfl, rfl⟩ := hv
  refine hG.1 [] 80 _ _ _ _ ?_
  refine hG.2.1 (c_Co_share hg hn hw ht hs hsum (by omega)) yv_Co_share lk_Co_57 (by decide +kernel) rfl rfl [0, 1, 2] (by decide +kernel) rfl rfl rfl (Nat.le_of_ble_eq_true rfl) (fun v w2 hv hl2 => ?_)
  obtain ⟨rfl, rfl⟩ := hv
  refine hG.1 [] 80 _ _ _ _ ?_
  exact ⟨trivial, rfl, rfl⟩
theorem c_Co_payers {sum : Int} (hn : n ≤ 9) (hw : 0 ≤ who ∧ who ≤ 3) (ht : 0 ≤ ties ∧ ties ≤ 2) (hs : ∀ j : Nat, j < n → 0 ≤ ss j ∧ ss j ≤ 20) (hsum : 0 ≤ sum ∧ sum ≤ 20) :
    zMet m_Co_payers [.inr (.inr 0), .inl sum] (wCo ks ss n who ties) (fun v w => v = some (.inl (zMaskN (zPay ss n who ties sum) n : Int)) ∧ w = wCo ks ss n who ties) := by
  have hfr := zFree_in ss n who
  refine zMet.of (own := RX0) rfl (by decide +kernel) tk_Co_payers fok_Co cok_Co (Nat.le_of_ble_eq_true rfl) (fun G hG => ?_)
  refine hG.1 [] 80 _ _ _ _ ?_
  refine hG.2.1 (c_Co_freeGuest hn hw hs) yv_Co_freeGuest lk_Co_53 (by decide +kernel) rfl rfl [0, 1, 2] (by decide +kernel) rfl rfl rfl (Nat.le_of_ble_eq_true rfl) (fun v w2 hv hl2 => ?_)
  obtain ⟨rfl, rfl⟩ := hv
  refine hG.1 [10] 80 _ _ _ _ ?_
  refine z_up0 (n := n) (P := fun i : Nat => G 10 [(0, .inr (.inr 0)), (1, .inl sum), (2, .inl (zFree ss n who)), (3, .inl (zMaskN (zPay ss n who ties sum) i : Int)), (4, .inl (i : Int))] [] (wCo ks ss n who ties)) ?_ (fun i hi ih => ?_)
  · refine hG.1 [] 80 _ _ _ _ ?_
    refine ⟨by omega, fun h1 => ?_, fun h1 => absurd h1 (by omega)⟩
    exact ⟨trivial, rfl, rfl⟩
  · refine hG.1 [] 80 _ _ _ _ ?_
    refine ⟨by omega, fun h1 => absurd h1 (by omega), fun h1 => ?_⟩
    refine hG.2.1 (c_Co_share (show i < 100 by omega) hn hw ht hs hsum (by omega)) yv_Co_share lk_Co_57 (by decide +kernel) rfl rfl [0, 1, 2] (by decide +kernel) rfl rfl rfl (Nat.le_of_ble_eq_true rfl) (fun v w2 hv hl2 => ?_)
    obtain ⟨rfl, rfl⟩ := hv
    have hin := zSh_in ss n who ties sum i (zFree ss n who)
    have e : zMaskN (zPay ss n who ties sum) (i + 1) = zMaskN (zPay ss n who ties sum) i + (if zPay ss n who ties sum i = true then 2 ^ i else 0) := rfl
    have hp : zPay ss n who ties sum i = decide (0 < zSh ss n who ties sum i (zFree ss n who)) := rfl
    refine hG.1 [10] 80 _ _ _ _ ?_
    refine ⟨by omega, fun h2 => ?_, fun h2 => ?_⟩
    · rw [e, hp, if_neg (by simpa using h2)] at ih
      exact ih
    · rw [e, hp, if_pos (by simpa using h2), ← z_bits1 i (by omega) _ (zMaskN_lt _ i)] at ih
      exact ⟨by omega, ih⟩
theorem c_Co_slipAlone {g : Nat} {sum mean : Int} (hg : g < n) (hn : n ≤ 9) (hk : 0 ≤ ks g ∧ ks g ≤ 3) :
    zMet m_Co_slipAlone [.inr (.inr 0), .inl g, .inl sum, .inl mean] (wCo ks ss n who ties) (fun v w => v = some (.inl (zAlone ks ss sum mean g)) ∧ w = wCo ks ss n who ties) := by
  refine zMet.of (own := RX0) rfl (by decide +kernel) tk_Co_slipAlone fok_Co cok_Co (Nat.le_of_ble_eq_true rfl) (fun G hG => ?_)
  refine hG.1 [] 80 _ _ _ _ ?_
  refine hG.2.1 (c_Co_kindOf hg hn) yv_Co_kindOf lk_Co_32 (by decide +kernel) rfl rfl [0, 1, 2] (by decide +kernel) rfl rfl rfl (Nat.le_of_ble_eq_true rfl) (fun v w2 hv hl2 => ?_)
  obtain ⟨rfl, rfl⟩ := hv
  refine hG.1 [] 80 _ _ _ _ ?_
  refine ⟨by omega, fun h1 => ?_, fun h1 => ?_, fun h1 => ?_, fun h1 => ?_, trivial⟩
  · refine hG.2.1 (c_Co_slipOf hg hn) yv_Co_slipOf lk_Co_50 (by decide +kernel) rfl rfl [0, 1, 2] (by decide +kernel) rfl rfl rfl (Nat.le_of_ble_eq_true rfl) (fun v w2 hv hl2 => ?_)
    obtain ⟨rfl, rfl⟩ := hv
    refine hG.1 [] 80 _ _ _ _ ?_
    exact ⟨trivial, by rw [zAlone, if_neg (by omega), if_neg (by omega), if_neg (by omega)], rfl⟩
  · exact ⟨trivial, by rw [zAlone, if_pos h1], rfl⟩
  · exact ⟨trivial, by rw [zAlone, if_neg (by omega), if_pos (by omega)], rfl⟩
  · exact ⟨trivial, by rw [zAlone, if_neg (by omega), if_neg (by omega), if_pos (by omega)], rfl⟩
theorem c_Co_writeAlone {sum mean : Int} (hn : n ≤ 9) (hk : ∀ j : Nat, j < n → 0 ≤ ks j ∧ ks j ≤ 3) (hs : ∀ j : Nat, j < n → 0 ≤ ss j ∧ ss j ≤ 20) (hsum : 0 ≤ sum ∧ sum ≤ 20) (hm : 0 ≤ mean ∧ mean ≤ 20) :
    zMet m_Co_writeAlone [.inr (.inr 0), .inl sum, .inl mean] (wCo ks ss n who ties) (fun v w => v = some (.inl (zChgN ks ss sum mean n : Int)) ∧ w = wCo ks (zWr ks ss sum mean n) n who ties) := by
  refine zMet.of (own := RX0) rfl (by decide +kernel) tk_Co_writeAlone fok_Co cok_Co (Nat.le_of_ble_eq_true rfl) (fun G hG => ?_)
  refine hG.1 [5] 80 _ _ _ _ ?_
  suffices L : G 5 [(0, .inr (.inr 0)), (1, .inl sum), (2, .inl mean), (3, .inl ((0 : Nat) : Int)), (4, .inl ((0 : Nat) : Int))] [] (wCo ks (zWr ks ss sum mean 0) n who ties) by
    rw [zWr_0] at L; exact L
  refine z_up0 (n := n) (P := fun i : Nat => G 5 [(0, .inr (.inr 0)), (1, .inl sum), (2, .inl mean), (3, .inl (zChgN ks ss sum mean i : Int)), (4, .inl (i : Int))] [] (wCo ks (zWr ks ss sum mean i) n who ties)) ?_ (fun i hi ih => ?_)
  · refine hG.1 [] 80 _ _ _ _ ?_
    refine ⟨by omega, fun h1 => ?_, fun h1 => absurd h1 (by omega)⟩
    exact ⟨trivial, rfl, rfl⟩
  · refine hG.1 [] 80 _ _ _ _ ?_
    refine ⟨by omega, fun h1 => absurd h1 (by omega), fun h1 => ?_⟩
    refine hG.2.1 (c_Co_slipAlone hi hn (hk i hi)) yv_Co_slipAlone lk_Co_46 (by decide +kernel) rfl rfl [0, 1, 2] (by decide +kernel) rfl rfl rfl (Nat.le_of_ble_eq_true rfl) (fun v w2 hv hl2 => ?_)
    obtain ⟨rfl, rfl⟩ := hv
    have ea : zAlone ks (zWr ks ss sum mean i) sum mean i = zAlone ks ss sum mean i := by
      unfold zAlone; rw [zWr_at]
    rw [ea]
    have hki := hk i hi
    have hsi := hs i hi
    have hin : 0 ≤ zAlone ks ss sum mean i ∧ zAlone ks ss sum mean i ≤ 20 := by
      unfold zAlone; repeat' split
      all_goals omega
    have e : zChgN ks ss sum mean (i + 1) = zChgN ks ss sum mean i + (if zAlone ks ss sum mean i = ss i then 0 else 1) := rfl
    have eat := zWr_at ks ss sum mean i
    refine hG.1 [5] 80 _ _ _ _ ?_
    refine ⟨by omega, by omega, fun h2 => ?_, fun h2 => ?_⟩
    · rw [eat] at h2
      rw [e, if_pos h2, ← zWr_keep h2] at ih
      exact hG.2.2.2.2.1 (fun q hq => List.mem_append_left _ hq) ih
    · rw [eat] at h2
      rw [e, if_neg h2, ← zWr_put] at ih
      exact ⟨by omega, hG.2.2.2.2.1 (fun q hq => List.mem_append_left _ hq) ih⟩
theorem c_Co_isBetween {g a b : Nat} (hg : g < n) (ha : a < n) (hb : b < n) (hn : n ≤ 9) (hs : ∀ j : Nat, j < n → 0 ≤ ss j ∧ ss j ≤ 20) :
    zMet m_Co_isBetween [.inr (.inr 0), .inl g, .inl a, .inl b] (wCo ks ss n who ties) (fun v w => z_bool ((ss a < ss g ∧ ss g < ss b) ∨ (ss b < ss g ∧ ss g < ss a)) v ∧ w = wCo ks ss n who ties) := by
  have h1 := hs g hg
  have h2 := hs a ha
  have h3 := hs b hb
  refine zMet.of (own := RX0) rfl (by decide +kernel) tk_Co_isBetween fok_Co cok_Co (Nat.le_of_ble_eq_true rfl) (fun G hG => ?_)
  refine hG.1 [] 80 _ _ _ _ ?_
  refine hG.2.1 (c_Co_slipOf hg hn) yv_Co_slipOf lk_Co_50 (by decide +kernel) rfl rfl [0, 1, 2] (by decide +kernel) rfl rfl rfl (Nat.le_of_ble_eq_true rfl) (fun v w2 hv hl2 => ?_)
  obtain ⟨rfl, rfl⟩ := hv
  refine hG.1 [] 80 _ _ _ _ ?_
  refine hG.2.1 (c_Co_slipOf ha hn) yv_Co_slipOf lk_Co_50 (by decide +kernel) rfl rfl [0, 1, 2] (by decide +kernel) rfl rfl rfl (Nat.le_of_ble_eq_true rfl) (fun v w2 hv hl2 => ?_)
  obtain ⟨rfl, rfl⟩ := hv
  refine hG.1 [] 80 _ _ _ _ ?_
  refine hG.2.1 (c_Co_slipOf hb hn) yv_Co_slipOf lk_Co_50 (by decide +kernel) rfl rfl [0, 1, 2] (by decide +kernel) rfl rfl rfl (Nat.le_of_ble_eq_true rfl) (fun v w2 hv hl2 => ?_)
  obtain ⟨rfl, rfl⟩ := hv
  refine hG.1 [] 80 _ _ _ _ ?_
  refine ⟨by omega, fun q1 => ?_, fun q1 => ?_⟩
  · refine ⟨by omega, fun q2 => ?_, fun q2 => ?_⟩
    · exact ⟨Or.inl rfl, Or.inr ⟨by omega, rfl⟩, rfl⟩
    · refine ⟨by omega, fun q3 => ?_, fun q3 => ?_⟩
      · exact ⟨Or.inl rfl, Or.inr ⟨by omega, rfl⟩, rfl⟩
      · exact ⟨Or.inr rfl, Or.inl ⟨by omega, rfl⟩, rfl⟩
  · refine ⟨by omega, fun q2 => ?_, fun q2 => ?_⟩
    · exact ⟨Or.inr rfl, Or.inl ⟨by omega, rfl⟩, rfl⟩
    · refine ⟨by omega, fun q3 => ?_, fun q3 => ?_⟩
      · exact ⟨Or.inl rfl, Or.inr ⟨by omega, rfl⟩, rfl⟩
      · refine ⟨by omega, fun q4 => ?_, fun q4 => ?_⟩
        · exact ⟨Or.inl rfl, Or.inr ⟨by omega, rfl⟩, rfl⟩
        · exact ⟨Or.inr rfl, Or.inl ⟨by omega, rfl⟩, rfl⟩
variable {ks' ss' : Int → Int} {n' : Nat} {who' ties' : Int}
theorem c_Co_seatAll : zMet m_Co_seatAll [.inr (.inr 0), .inr (.inr 3)] (wCo2 ks ss n who ties ks' ss' n' who' ties') (fun v w => v = none ∧ w = wCo2 (z_cpy ks' ks 9) (z_cpy ss' ss 9) n' who ties ks' ss' n' who' ties') := by
  refine zMet.of (own := RX0) rfl (by decide +kernel) tk_Co_seatAll fok_Co cok_Co (Nat.le_of_ble_eq_true rfl) (fun G hG => ?_)
  refine hG.1 [] 80 _ _ _ _ ?_
  refine hG.2.2.2.1 lk_Co_36 ⟨by decide, by decide⟩ rfl rfl (by omega) rfl (Nat.le_of_ble_eq_true rfl) ?_
  refine hG.1 [] 80 _ _ _ _ ?_
  refine hG.2.2.2.1 lk_Co_36 ⟨by decide, by decide⟩ rfl rfl (by omega) rfl (Nat.le_of_ble_eq_true rfl) ?_
  refine hG.1 [] 80 _ _ _ _ ?_
  exact ⟨trivial, rfl, rfl⟩
theorem c_Co_copyFrom : zMet m_Co_copyFrom [.inr (.inr 0), .inr (.inr 3)] (wCo2 ks ss n who ties ks' ss' n' who' ties') (fun v w => v = none ∧ w = wCo2 (z_cpy ks' ks 9) (z_cpy ss' ss 9) n' who' ties' ks' ss' n' who' ties') := by
  refine zMet.of (own := RX0) rfl (by decide +kernel) tk_Co_copyFrom fok_Co cok_Co (Nat.le_of_ble_eq_true rfl) (fun G hG => ?_)
  refine hG.1 [] 80 _ _ _ _ ?_
  refine hG.2.1 (c_Co_seatAll ) yv_Co_seatAll lk_Co_42 (by decide +kernel) rfl rfl [0, 1, 2, 3, 4, 5] (by decide +kernel) rfl rfl rfl (Nat.le_of_ble_eq_true rfl) (fun v w2 hv hl2 => ?_)
  obtain ⟨rfl, rfl⟩ := hv
  refine hG.1 [] 80 _ _ _ _ ?_
  exact ⟨trivial, rfl, rfl⟩
end Co3
