/-! COMPANY: contracts -/
abbrev wCo (ks ss : Int → Int) (n : Nat) (who ties : Int) : zW := [.inl (0, [.inr (.inr 1), .inr (.inr 2), .inl (n : Int), .inl who, .inl ties]), .inr (0, (9, .inl ks)), .inr (0, (9, .inl ss))]
def z_bool (c : Prop) (v : Option zV) : Prop := (c ∧ v = some (.inl 1)) ∨ (¬ c ∧ v = some (.inl 0))
theorem z_up {n : Nat} {P : Nat → Prop} (hx : P n) (hs : ∀ i, i < n → P (i + 1) → P i) : ∀ i, i ≤ n → P i := by
  intro i hi
  obtain ⟨d, rfl⟩ := Nat.exists_eq_add_of_le hi
  clear hi
  induction d generalizing i with
  | zero => exact hx
  | succ d ih => exact hs i (by omega) (ih (i + 1) (by rw [show i + 1 + d = i + (d + 1) by omega]; exact hx) (fun j hj => hs j (by omega)))
theorem z_up0 {n : Nat} {P : Nat → Prop} (hx : P n) (hs : ∀ i, i < n → P (i + 1) → P i) : P 0 := z_up hx hs 0 (Nat.zero_le _)
def zAbs (x : Int) : Int := if x < 0 then -x else x
def zOff (ss : Int → Int) (sum : Int) (o : Nat) : Int := zAbs (ss o - sum)
theorem zOff_in {ss : Int → Int} {sum : Int} {o : Nat} (h : 0 ≤ ss o ∧ ss o ≤ 20) (hs : 0 ≤ sum ∧ sum ≤ 20) : 0 ≤ zOff ss sum o ∧ zOff ss sum o ≤ 20 := by
  unfold zOff zAbs; split <;> omega
def zPlaceN (ss : Int → Int) (g : Nat) : Nat → Nat
  | 0 => 0
  | o + 1 => zPlaceN ss g o + (if ss o < ss g ∨ (ss o = ss g ∧ o < g) then 1 else 0)
theorem zPlaceN_le (ss : Int → Int) (g : Nat) : ∀ n, zPlaceN ss g n ≤ n
  | 0 => Nat.le_refl _
  | n + 1 => by have := zPlaceN_le ss g n; unfold zPlaceN; split <;> omega
def zAheadN (ss : Int → Int) (ties sum : Int) (g : Nat) : Nat → Nat
  | 0 => 0
  | o + 1 => zAheadN ss ties sum g o + (if zOff ss sum g < zOff ss sum o ∨ (zOff ss sum o = zOff ss sum g ∧ ((ties = 2 ∧ g < o) ∨ (ties ≠ 2 ∧ o < g))) then 1 else 0)
theorem zAheadN_le (ss : Int → Int) (ties sum : Int) (g : Nat) : ∀ n, zAheadN ss ties sum g n ≤ n
  | 0 => Nat.le_refl _
  | n + 1 => by have := zAheadN_le ss ties sum g n; unfold zAheadN; split <;> omega
def zShTwo (ss : Int → Int) (n : Nat) (ties sum : Int) (g : Nat) : Int := if 1 < zAheadN ss ties sum g n then 0 else if n = 1 then 2520 else 1260
def zBad (ss : Int → Int) (who ties sum : Int) (g : Nat) (free : Int) (o : Nat) : Prop := o ≠ g ∧ (o : Int) ≠ free ∧ ((who = 1 ∧ zOff ss sum o < zOff ss sum g) ∨ (who ≠ 1 ∧ zOff ss sum g < zOff ss sum o) ∨ (zOff ss sum o = zOff ss sum g ∧ ((ties = 0 ∧ o < g) ∨ (ties = 2 ∧ g < o))))
def zBadN (ss : Int → Int) (who ties sum : Int) (g : Nat) (free : Int) : Nat → Prop
  | 0 => False
  | o + 1 => zBadN ss who ties sum g free o ∨ zBad ss who ties sum g free o
theorem zBadN_iff {ss : Int → Int} {who ties sum : Int} {g : Nat} {free : Int} : ∀ {n : Nat}, zBadN ss who ties sum g free n ↔ ∃ o, o < n ∧ zBad ss who ties sum g free o
  | 0 => ⟨fun h => h.elim, fun ⟨o, h, _⟩ => absurd h (Nat.not_lt_zero o)⟩
  | n + 1 => by
    constructor
    · rintro (h | h)
      · obtain ⟨o, h1, h2⟩ := zBadN_iff.mp h; exact ⟨o, by omega, h2⟩
      · exact ⟨n, by omega, h⟩
    · rintro ⟨o, h1, h2⟩
      rcases Nat.lt_succ_iff_lt_or_eq.mp h1 with h | rfl
      · exact Or.inl (zBadN_iff.mpr ⟨o, h, h2⟩)
      · exact Or.inr h2
def zAlikeN (ss : Int → Int) (sum : Int) (g : Nat) (free : Int) : Nat → Nat
  | 0 => 0
  | o + 1 => zAlikeN ss sum g free o + (if o ≠ g ∧ (o : Int) ≠ free ∧ zOff ss sum o = zOff ss sum g then 1 else 0)
theorem zAlikeN_le (ss : Int → Int) (sum : Int) (g : Nat) (free : Int) : ∀ n, zAlikeN ss sum g free n ≤ n
  | 0 => Nat.le_refl _
  | n + 1 => by have := zAlikeN_le ss sum g free n; unfold zAlikeN; split <;> omega
noncomputable def zShMost (ss : Int → Int) (n : Nat) (who ties sum : Int) (g : Nat) (free : Int) : Int := @ite _ (zBadN ss who ties sum g free n) (Classical.propDecidable _) 0 (if ties = 1 then 2520 / (1 + (zAlikeN ss sum g free n : Int)) else 2520)
theorem zShMost_bad {ss : Int → Int} {n : Nat} {who ties sum : Int} {g : Nat} {free : Int} (h : zBadN ss who ties sum g free n) : zShMost ss n who ties sum g free = 0 := by unfold zShMost; rw [if_pos h]
theorem zShMost_good {ss : Int → Int} {n : Nat} {who ties sum : Int} {g : Nat} {free : Int} (h : ¬ zBadN ss who ties sum g free n) : zShMost ss n who ties sum g free = (if ties = 1 then 2520 / (1 + (zAlikeN ss sum g free n : Int)) else 2520) := by unfold zShMost; rw [if_neg h]
/-- the first guest at a place, from i on (d guests are left) -/
def zFindN (ss : Int → Int) (n mid : Nat) : Nat → Nat → Int
  | _, 0 => -1
  | i, d + 1 => if zPlaceN ss i n = mid then (i : Int) else zFindN ss n mid (i + 1) d
def zFree (ss : Int → Int) (n : Nat) (who : Int) : Int := if who = 3 ∧ 2 ≤ n then zFindN ss n ((n - 1) / 2) 0 n else -1
theorem zFindN_in (ss : Int → Int) (n mid : Nat) : ∀ d i, -1 ≤ zFindN ss n mid i d ∧ zFindN ss n mid i d < (i : Int) + d
  | 0, i => by unfold zFindN; omega
  | d + 1, i => by
    have := zFindN_in ss n mid d (i + 1)
    unfold zFindN; split <;> omega
theorem zFree_in (ss : Int → Int) (n : Nat) (who : Int) : -1 ≤ zFree ss n who ∧ zFree ss n who < max 0 (n : Int) := by
  unfold zFree; split
  · have := zFindN_in ss n ((n - 1) / 2) n 0; omega
  · omega
noncomputable def zSh (ss : Int → Int) (n : Nat) (who ties sum : Int) (g : Nat) (free : Int) : Int := if n ≤ g ∨ (g : Int) = free then 0 else if who = 2 then zShTwo ss n ties sum g else zShMost ss n who ties sum g free
theorem zShMost_in (ss : Int → Int) (n : Nat) (who ties sum : Int) (g : Nat) (free : Int) : 0 ≤ zShMost ss n who ties sum g free ∧ zShMost ss n who ties sum g free ≤ 2520 := by
  rcases Classical.em (zBadN ss who ties sum g free n) with h | h
  · rw [zShMost_bad h]; omega
  · rw [zShMost_good h]; split
    · exact ⟨Int.ediv_nonneg (by omega) (by omega), Int.ediv_le_self _ (by omega)⟩
    · omega
theorem zSh_in (ss : Int → Int) (n : Nat) (who ties sum : Int) (g : Nat) (free : Int) : 0 ≤ zSh ss n who ties sum g free ∧ zSh ss n who ties sum g free ≤ 2520 := by
  unfold zSh; split
  · omega
  · split
    · unfold zShTwo; split
      · omega
      · split <;> omega
    · exact zShMost_in ..
theorem c_Ja_abs {x : Int} (h : -2147483647 ≤ x ∧ x ≤ 2147483647) : zMet m_Ja_abs [.inl x] [] (fun v w => v = some (.inl (zAbs x)) ∧ w = []) := by
  refine zMet.of (own := "java/lang/Math") rfl (by decide +kernel) tk_Ja_abs fok_Jm cok_Jm (Nat.le_of_ble_eq_true rfl) (fun G hG => ?_)
  refine hG.1 [] 80 _ _ _ _ ?_
  refine ⟨by omega, fun h1 => ?_, fun h1 => ?_⟩
  · exact ⟨trivial, by rw [zAbs, if_neg (by omega)], rfl⟩
  · exact ⟨trivial, by rw [zAbs, if_pos h1], rfl⟩
theorem c_Ja_min {x y : Int} (hx : -2147483648 ≤ x ∧ x ≤ 2147483647) (hy : -2147483648 ≤ y ∧ y ≤ 2147483647) : zMet m_Ja_min [.inl x, .inl y] [] (fun v w => v = some (.inl (if x ≤ y then x else y)) ∧ w = []) := by
  refine zMet.of (own := "java/lang/Math") rfl (by decide +kernel) tk_Ja_min fok_Jm cok_Jm (Nat.le_of_ble_eq_true rfl) (fun G hG => ?_)
  refine hG.1 [] 80 _ _ _ _ ?_
  refine ⟨by omega, fun h1 => ?_, fun h1 => ?_⟩
  · exact ⟨trivial, by rw [if_neg (by omega)], rfl⟩
  · exact ⟨trivial, by rw [if_pos h1], rfl⟩
section Co
variable {ks ss : Int → Int} {n : Nat} {who ties : Int}
theorem c_Co_size : zMet m_Co_size [.inr (.inr 0)] (wCo ks ss n who ties) (fun v w => v = some (.inl (n : Int)) ∧ w = wCo ks ss n who ties) := by
  refine zMet.of (own := RX0) rfl (by decide +kernel) tk_Co_size fok_Co cok_Co (Nat.le_of_ble_eq_true rfl) (fun G hG => ?_)
  refine hG.1 [] 80 _ _ _ _ ?_
  exact ⟨trivial, rfl, rfl⟩
theorem c_Co_has {g : Int} (hg : -2147483648 ≤ g ∧ g ≤ 2147483647) (hn : n ≤ 9) :
    zMet m_Co_has [.inr (.inr 0), .inl g] (wCo ks ss n who ties) (fun v w => z_bool (0 ≤ g ∧ g < n) v ∧ w = wCo ks ss n who ties) := by
  refine zMet.of (own := RX0) rfl (by decide +kernel) tk_Co_has fok_Co cok_Co (Nat.le_of_ble_eq_true rfl) (fun G hG => ?_)
  refine hG.1 [] 80 _ _ _ _ ?_
  refine ⟨by omega, fun h1 => ?_, fun h1 => ?_⟩
  · exact ⟨Or.inl rfl, Or.inr ⟨by omega, rfl⟩, rfl⟩
  · refine ⟨by omega, fun h2 => ?_, fun h2 => ?_⟩
    · exact ⟨Or.inl rfl, Or.inr ⟨by omega, rfl⟩, rfl⟩
    · exact ⟨Or.inr rfl, Or.inl ⟨by omega, rfl⟩, rfl⟩
theorem c_Co_kindOf {g : Nat} (hg : g < n) (hn : n ≤ 9) :
    zMet m_Co_kindOf [.inr (.inr 0), .inl g] (wCo ks ss n who ties) (fun v w => v = some (.inl (ks g)) ∧ w = wCo ks ss n who ties) := by
  refine zMet.of (own := RX0) rfl (by decide +kernel) tk_Co_kindOf fok_Co cok_Co (Nat.le_of_ble_eq_true rfl) (fun G hG => ?_)
  refine hG.1 [] 80 _ _ _ _ ?_
  refine hG.2.1 (c_Co_has (g := (g : Int)) (by omega) hn) yv_Co_has lk_Co_28 (by decide +kernel) rfl rfl [0, 1, 2] (by decide +kernel) rfl rfl rfl (Nat.le_of_ble_eq_true rfl) (fun v w2 hv hl2 => ?_)
  obtain ⟨⟨hc, rfl⟩ | ⟨hc, rfl⟩, rfl⟩ := hv
  · refine hG.1 [] 80 _ _ _ _ ?_
    refine ⟨by omega, fun h1 => absurd h1 (by omega), fun h1 => ?_⟩
    exact ⟨by omega, trivial, rfl, rfl⟩
  · exact absurd (show 0 ≤ (g : Int) ∧ (g : Int) < n by omega) hc
theorem c_Co_slipOf {g : Nat} (hg : g < n) (hn : n ≤ 9) :
    zMet m_Co_slipOf [.inr (.inr 0), .inl g] (wCo ks ss n who ties) (fun v w => v = some (.inl (ss g)) ∧ w = wCo ks ss n who ties) := by
  refine zMet.of (own := RX0) rfl (by decide +kernel) tk_Co_slipOf fok_Co cok_Co (Nat.le_of_ble_eq_true rfl) (fun G hG => ?_)
  refine hG.1 [] 80 _ _ _ _ ?_
  refine hG.2.1 (c_Co_has (g := (g : Int)) (by omega) hn) yv_Co_has lk_Co_28 (by decide +kernel) rfl rfl [0, 1, 2] (by decide +kernel) rfl rfl rfl (Nat.le_of_ble_eq_true rfl) (fun v w2 hv hl2 => ?_)
  obtain ⟨⟨hc, rfl⟩ | ⟨hc, rfl⟩, rfl⟩ := hv
  · refine hG.1 [] 80 _ _ _ _ ?_
    refine ⟨by omega, fun h1 => absurd h1 (by omega), fun h1 => ?_⟩
    exact ⟨by omega, trivial, rfl, rfl⟩
  · exact absurd (show 0 ≤ (g : Int) ∧ (g : Int) < n by omega) hc
theorem c_Co_isNought {g : Nat} (hg : g < n) (hn : n ≤ 9) (hk : 0 ≤ ks g ∧ ks g ≤ 3) :
    zMet m_Co_isNought [.inr (.inr 0), .inl g] (wCo ks ss n who ties) (fun v w => z_bool (ks g = 2) v ∧ w = wCo ks ss n who ties) := by
  refine zMet.of (own := RX0) rfl (by decide +kernel) tk_Co_isNought fok_Co cok_Co (Nat.le_of_ble_eq_true rfl) (fun G hG => ?_)
  refine hG.1 [] 80 _ _ _ _ ?_
  refine hG.2.1 (c_Co_kindOf hg hn) yv_Co_kindOf lk_Co_32 (by decide +kernel) rfl rfl [0, 1, 2] (by decide +kernel) rfl rfl rfl (Nat.le_of_ble_eq_true rfl) (fun v w2 hv hl2 => ?_)
  obtain ⟨rfl, rfl⟩ := hv
  refine hG.1 [] 80 _ _ _ _ ?_
  refine ⟨by omega, fun h1 => ?_, fun h1 => ?_⟩
  · exact ⟨Or.inl rfl, Or.inr ⟨h1, rfl⟩, rfl⟩
  · exact ⟨Or.inr rfl, Or.inl ⟨h1, rfl⟩, rfl⟩
theorem c_Co_putSlip {g : Nat} {x : Int} (hg : g < n) (hn : n ≤ 9) :
    zMet m_Co_putSlip [.inr (.inr 0), .inl g, .inl x] (wCo ks ss n who ties) (fun v w => v = none ∧ w = wCo ks (z_u ss g x) n who ties) := by
  refine zMet.of (own := RX0) rfl (by decide +kernel) tk_Co_putSlip fok_Co cok_Co (Nat.le_of_ble_eq_true rfl) (fun G hG => ?_)
  refine hG.1 [] 80 _ _ _ _ ?_
  refine hG.2.1 (c_Co_has (g := (g : Int)) (by omega) hn) yv_Co_has lk_Co_28 (by decide +kernel) rfl rfl [0, 1, 2] (by decide +kernel) rfl rfl rfl (Nat.le_of_ble_eq_true rfl) (fun v w2 hv hl2 => ?_)
  obtain ⟨⟨hc, rfl⟩ | ⟨hc, rfl⟩, rfl⟩ := hv
  · refine hG.1 [] 80 _ _ _ _ ?_
    refine ⟨by omega, fun h1 => absurd h1 (by omega), fun h1 => ?_⟩
    exact ⟨by omega, trivial, rfl, rfl⟩
  · exact absurd (show 0 ≤ (g : Int) ∧ (g : Int) < n by omega) hc
theorem c_Co_seat {k x : Int} (hn : n < 9) :
    zMet m_Co_seat [.inr (.inr 0), .inl k, .inl x] (wCo ks ss n who ties) (fun v w => v = none ∧ w = wCo (z_u ks n k) (z_u ss n x) (n + 1) who ties) := by
  refine zMet.of (own := RX0) rfl (by decide +kernel) tk_Co_seat fok_Co cok_Co (Nat.le_of_ble_eq_true rfl) (fun G hG => ?_)
  refine hG.1 [] 80 _ _ _ _ ?_
  refine ⟨by omega, fun h1 => absurd h1 (by omega), fun h1 => ?_⟩
  exact ⟨by omega, by omega, trivial, rfl, rfl⟩
theorem c_Co_clear : zMet m_Co_clear [.inr (.inr 0)] (wCo ks ss n who ties) (fun v w => v = none ∧ w = wCo ks ss 0 who ties) := by
  refine zMet.of (own := RX0) rfl (by decide +kernel) tk_Co_clear fok_Co cok_Co (Nat.le_of_ble_eq_true rfl) (fun G hG => ?_)
  refine hG.1 [] 80 _ _ _ _ ?_
  exact ⟨trivial, rfl, rfl⟩
theorem c_Co_changeWho {x : Int} : zMet m_Co_changeWho [.inr (.inr 0), .inl x] (wCo ks ss n who ties) (fun v w => v = some (.inl who) ∧ w = wCo ks ss n x ties) := by
  refine zMet.of (own := RX0) rfl (by decide +kernel) tk_Co_changeWho fok_Co cok_Co (Nat.le_of_ble_eq_true rfl) (fun G hG => ?_)
  refine hG.1 [] 80 _ _ _ _ ?_
  exact ⟨trivial, rfl, rfl⟩
theorem c_Co_changeTies {x : Int} : zMet m_Co_changeTies [.inr (.inr 0), .inl x] (wCo ks ss n who ties) (fun v w => v = some (.inl ties) ∧ w = wCo ks ss n who x) := by
  refine zMet.of (own := RX0) rfl (by decide +kernel) tk_Co_changeTies fok_Co cok_Co (Nat.le_of_ble_eq_true rfl) (fun G hG => ?_)
  refine hG.1 [] 80 _ _ _ _ ?_
  exact ⟨trivial, rfl, rfl⟩
theorem c_Co_placeOf {g : Nat} (hg : g < n) (hn : n ≤ 9) (hs : ∀ j : Nat, j < n → 0 ≤ ss j ∧ ss j ≤ 20) :
    zMet m_Co_placeOf [.inr (.inr 0), .inl g] (wCo ks ss n who ties) (fun v w => v = some (.inl (zPlaceN ss g n : Int)) ∧ w = wCo ks ss n who ties) := by
  have hsg := hs g hg
  refine zMet.of (own := RX0) rfl (by decide +kernel) tk_Co_placeOf fok_Co cok_Co (Nat.le_of_ble_eq_true rfl) (fun G hG => ?_)
  refine hG.1 [12] 80 _ _ _ _ ?_
  refine ⟨by omega, ?_⟩
  refine z_up0 (n := n) (P := fun i : Nat => G 12 [(0, .inr (.inr 0)), (1, .inl (g : Int)), (2, .inl (ss g)), (3, .inl (zPlaceN ss g i : Int)), (4, .inl (i : Int))] [] (wCo ks ss n who ties)) ?_ (fun i hi ih => ?_)
  · refine hG.1 [] 80 _ _ _ _ ?_
    refine ⟨by omega, fun h1 => ?_, fun h1 => absurd h1 (by omega)⟩
    exact ⟨trivial, rfl, rfl⟩
  · have hsi := hs i hi
    have e : zPlaceN ss g (i + 1) = zPlaceN ss g i + (if ss i < ss g ∨ (ss i = ss g ∧ i < g) then 1 else 0) := rfl
    refine hG.1 [12] 80 _ _ _ _ ?_
    refine ⟨by omega, fun h1 => absurd h1 (by omega), fun h1 => ?_⟩
    refine ⟨by omega, by omega, fun h2 => ?_, fun h2 => ?_⟩
    · rw [if_pos (Or.inl h2)] at e
      rw [e] at ih; exact ih
    · refine ⟨by omega, by omega, fun h3 => ?_, fun h3 => ?_⟩
      · rw [if_neg (by omega)] at e
        rw [e] at ih; exact ih
      · refine ⟨by omega, fun h4 => ?_, fun h4 => ?_⟩
        · rw [if_neg (by omega)] at e
          rw [e] at ih; exact ih
        · rw [if_pos (by omega)] at e
          rw [e] at ih; exact ih
end Co
