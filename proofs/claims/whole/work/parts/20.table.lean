/-! TABLE: burdens, best slips, turns, leagues -/
abbrev wTa (w ks ss : Int → Int) (n : Nat) (who ties : Int) : zW := [.inl (4, [.inr (.inr 1), .inr (.inr 3), .inr (.inr 6)]), .inl (3, [.inr (.inr 2)]), .inr (0, (21, .inl w)), .inl (0, [.inr (.inr 4), .inr (.inr 5), .inl (n : Int), .inl who, .inl ties]), .inr (0, (9, .inl ks)), .inr (0, (9, .inl ss))]
def zOkS (ss : Int → Int) (n : Nat) : Prop := ∀ j : Nat, j < n → 0 ≤ ss j ∧ ss j ≤ 20
def zOkW (w : Int → Int) : Prop := ∀ j : Nat, j < 21 → 0 ≤ w j ∧ w j ≤ 99
def zOkL (n : Nat) (who ties : Int) : Prop := n ≤ 9 ∧ (0 ≤ who ∧ who ≤ 3) ∧ (0 ≤ ties ∧ ties ≤ 2)
def zOkK (ks : Int → Int) (n : Nat) : Prop := ∀ j : Nat, j < n → 0 ≤ ks j ∧ ks j ≤ 3
noncomputable def zBuN (w ss : Int → Int) (n : Nat) (who ties : Int) (g : Nat) : Nat → Int
  | 0 => 0
  | k + 1 => zBuN w ss n who ties g k + (if 0 < w k then ((k : Int) * w k) * zSh ss n who ties k g (zFree ss n who) else 0)
noncomputable def zBu (w ss : Int → Int) (n : Nat) (who ties : Int) (g : Nat) : Int := zBuN w ss n who ties g 21
def zMn (f : Nat → Int) (L0 : Int) : Nat → Int
  | 0 => L0
  | k + 1 => if f k < zMn f L0 k then f k else zMn f L0 k
def zAr (f : Nat → Int) (L0 : Int) : Nat → Nat
  | 0 => 0
  | k + 1 => if f k < zMn f L0 k then k else zAr f L0 k
theorem zAr_le (f : Nat → Int) (L0 : Int) : ∀ k, zAr f L0 k ≤ k - 1
  | 0 => Nat.le_refl _
  | k + 1 => by have := zAr_le f L0 k; unfold zAr; split <;> omega
noncomputable def zFs (w ss : Int → Int) (n : Nat) (who ties : Int) (g : Nat) : Nat → Int := fun x => zBu w (z_u ss g x) n who ties g
noncomputable def zLi (w ss : Int → Int) (n : Nat) (who ties : Int) (g : Nat) : Nat := zAr (zFs w ss n who ties g) (2520 * zWeiN w 21 + 1) 21
noncomputable def zBet (w ks ss : Int → Int) (n : Nat) (who ties : Int) (g : Nat) : Int := if ks g = 2 then ss g else if zFs w ss n who ties g (zLi w ss n who ties g) < zBu w ss n who ties g then (zLi w ss n who ties g : Int) else ss g
noncomputable def zTk (w ks : Int → Int) (n : Nat) (who ties : Int) : Nat → Nat → Nat → Nat → (Int → Int) → Nat × (Int → Int)
  | 0, _, _, ch, s => (ch, s)
  | d + 1, g, kept, ch, s => if ¬ kept < n then (ch, s) else if zBet w ks s n who ties g = s g then zTk w ks n who ties d (if g + 1 < n then g + 1 else 0) (kept + 1) ch s else zTk w ks n who ties d (if g + 1 < n then g + 1 else 0) 0 (ch + 1) (z_u s g (zBet w ks s n who ties g))
noncomputable def zFp (w ss : Int → Int) (n : Nat) (who ties : Int) (a b c : Nat) : Nat → Int := fun p => zBu w (z_u (z_u ss a ((p / 21 : Nat) : Int)) b ((p % 21 : Nat) : Int)) n who ties c
def zHp (f : Nat → Int) (en : Int) : Nat → Nat → Nat → Int → Nat × Int
  | 0, _, h, m => (h, m)
  | d + 1, p, h, m => if m < en then (if m < f p then zHp f en d (p + 1) p (f p) else zHp f en d (p + 1) h m) else (h, m)
noncomputable def zSf (w ss : Int → Int) (n : Nat) (who ties : Int) (a b c : Nat) : Nat → Nat × Int
  | 0 => (0, 2520 * zWeiN w 21 + 1)
  | k + 1 => if zFp w (z_u ss c k) n who ties a b c (zHp (zFp w (z_u ss c k) n who ties a b c) (zSf w ss n who ties a b c k).2 441 0 0 (-1)).1 < (zSf w ss n who ties a b c k).2 then (k, zFp w (z_u ss c k) n who ties a b c (zHp (zFp w (z_u ss c k) n who ties a b c) (zSf w ss n who ties a b c k).2 441 0 0 (-1)).1) else zSf w ss n who ties a b c k
theorem z_u_back (s : Int → Int) (g x : Int) : z_u (z_u s g x) g (s g) = s := by
  funext j; unfold z_u; by_cases h : j = g
  · rw [if_pos h, h]
  · rw [if_neg h, if_neg h]
theorem z_u_u (s : Int → Int) (g x y : Int) : z_u (z_u s g x) g y = z_u s g y := by
  funext j; unfold z_u; by_cases h : j = g
  · rw [if_pos h, if_pos h]
  · rw [if_neg h, if_neg h, if_neg h]
theorem z_u_self (s : Int → Int) (g : Int) : z_u s g (s g) = s := by
  funext j; unfold z_u; by_cases h : j = g
  · rw [if_pos h, h]
  · rw [if_neg h]
theorem z_u_comm (s : Int → Int) {g k : Int} (h : g ≠ k) (x y : Int) : z_u (z_u s g x) k y = z_u (z_u s k y) g x := by
  funext j; unfold z_u
  by_cases h1 : j = k
  · subst h1; rw [if_pos rfl, if_neg (fun q => h q.symm), if_pos rfl]
  · rw [if_neg h1, if_neg h1]
theorem zOkS_u {s : Int → Int} {n : Nat} {g : Nat} {x : Int} (h : zOkS s n) (hx : 0 ≤ x ∧ x ≤ 20) : zOkS (z_u s g x) n := fun j hj => by
  unfold z_u; split
  · exact hx
  · exact h j hj
theorem zBuN_in {w ss : Int → Int} {n : Nat} {who ties : Int} {g : Nat} (hW : zOkW w) : ∀ k, k ≤ 21 → 0 ≤ zBuN w ss n who ties g k ∧ zBuN w ss n who ties g k ≤ 2520 * zWeiN w k
  | 0, _ => by simp [zBuN, zWeiN]
  | k + 1, hk => by
    have h1 := zBuN_in (ss := ss) (n := n) (who := who) (ties := ties) (g := g) hW k (by omega)
    have h2 := hW k (by omega)
    have h3 := zSh_in ss n who ties k g (zFree ss n who)
    have h4 : 0 ≤ (k : Int) * w k := Int.mul_nonneg (by omega) h2.1
    have h5 : 0 ≤ ((k : Int) * w k) * zSh ss n who ties k g (zFree ss n who) := Int.mul_nonneg h4 h3.1
    have h6 : ((k : Int) * w k) * zSh ss n who ties k g (zFree ss n who) ≤ ((k : Int) * w k) * 2520 := Int.mul_le_mul_of_nonneg_left h3.2 h4
    unfold zBuN zWeiN
    generalize ((k : Int) * w k) * zSh ss n who ties k g (zFree ss n who) = t at h5 h6 ⊢
    generalize (k : Int) * w k = u at h4 h6 ⊢
    split <;> omega
theorem zWei21 {w : Int → Int} (hW : zOkW w) : 0 ≤ zWeiN w 21 ∧ zWeiN w 21 ≤ 41580 := by
  have := zWeiN_in (f := w) (Nat.le_refl 21) hW; omega
theorem zBu_in {w ss : Int → Int} {n : Nat} {who ties : Int} {g : Nat} (hW : zOkW w) : 0 ≤ zBu w ss n who ties g ∧ zBu w ss n who ties g ≤ 2520 * zWeiN w 21 := zBuN_in hW 21 (Nat.le_refl _)
theorem zMn_in {f : Nat → Int} {L0 M : Int} (hL : 0 ≤ L0 ∧ L0 ≤ M) (hf : ∀ k, 0 ≤ f k ∧ f k ≤ M) : ∀ k, 0 ≤ zMn f L0 k ∧ zMn f L0 k ≤ M
  | 0 => hL
  | k + 1 => by have := zMn_in hL hf k; have := hf k; unfold zMn; split <;> omega
section Ta
variable {w ks ss : Int → Int} {n : Nat} {who ties : Int}
theorem c_Ta_burden {g : Nat} (hg : g < n) (hL : zOkL n who ties) (hS : zOkS ss n) (hW : zOkW w) :
    zMet m_Ta_burden [.inr (.inr 0), .inl g] (wTa w ks ss n who ties) (fun v wd => v = some (.inr (.inl (zBu w ss n who ties g))) ∧ wd = wTa w ks ss n who ties) := by
  obtain ⟨hn, hwho, hties⟩ := hL
  have hfr := zFree_in ss n who
  refine zMet.of (own := RX4) rfl (by decide +kernel) tk_Ta_burden fok_Ta cok_Ta (Nat.le_of_ble_eq_true rfl) (fun G hG => ?_)
  refine hG.1 [] 80 _ _ _ _ ?_
  refine hG.2.1 (c_Co_freeGuest hn hwho hS) yv_Co_freeGuest lk_Ta_42 (by decide +kernel) rfl rfl [3, 4, 5] (by decide +kernel) rfl rfl rfl (Nat.le_of_ble_eq_true rfl) (fun v w2 hv hl2 => ?_)
  obtain ⟨rfl, rfl⟩ := hv
  change G _ _ _ (wTa w ks (ss) n who ties)
  refine hG.1 [13] 80 _ _ _ _ ?_
  have e1 : zBuN w ss n who ties g 1 = 0 := by
    unfold zBuN; unfold zBuN
    simp
  suffices L : ∀ i, i ≤ 21 → (1 ≤ i → G 13 [(0, .inr (.inr 0)), (1, .inl (g : Int)), (2, .inl (zFree ss n who)), (3, .inr (.inl (zBuN w ss n who ties g i))), (5, .inl (i : Int))] [] (wTa w ks ss n who ties)) by
    have := L 1 (by omega) (by omega)
    rw [e1] at this; exact this
  refine z_up (fun hb => ?_) (fun i hi ih hb => ?_)
  · refine hG.1 [] 80 _ _ _ _ ?_
    refine ⟨by omega, fun h1 => ?_, fun h1 => absurd h1 (by omega)⟩
    exact ⟨trivial, rfl, rfl⟩
  · have hwi := hW i hi
    have hsh := zSh_in ss n who ties i g (zFree ss n who)
    have e : zBuN w ss n who ties g (i + 1) = zBuN w ss n who ties g i + (if 0 < w i then ((i : Int) * w i) * zSh ss n who ties i g (zFree ss n who) else 0) := rfl
    have ih := ih (by omega)
    refine hG.1 [13] 80 _ _ _ _ ?_
    refine ⟨by omega, fun h1 => absurd h1 (by omega), fun h1 => ?_⟩
    refine hG.2.1 (c_Su_weightOf (x := (i : Int)) (by omega)) yv_Su_weightOf lk_Ta_46 (by decide +kernel) rfl rfl [1, 2] (by decide +kernel) rfl rfl rfl (Nat.le_of_ble_eq_true rfl) (fun v w2 hv hl2 => ?_)
    obtain ⟨rfl, rfl⟩ := hv
    change G _ _ _ (wTa w ks (ss) n who ties)
    refine hG.1 [13] 80 _ _ _ _ ?_
    refine ⟨by omega, fun h2 => ?_, fun h2 => ?_⟩
    · rw [e, if_neg (by omega), Int.add_zero] at ih
      exact hG.2.2.2.2.1 (fun q hq => List.mem_append_left _ hq) ih
    · refine ⟨by omega, by omega, ?_⟩
      refine hG.2.1 (c_Co_share (g := g) (by omega) hn hwho hties hS (by omega) (by omega)) yv_Co_share lk_Ta_50 (by decide +kernel) rfl rfl [3, 4, 5] (by decide +kernel) rfl rfl rfl (Nat.le_of_ble_eq_true rfl) (fun v w2 hv hl2 => ?_)
      obtain ⟨rfl, rfl⟩ := hv
      change G _ _ _ (wTa w ks (ss) n who ties)
      refine hG.1 [13] 80 _ _ _ _ ?_
      rw [e, if_pos h2] at ih
      exact ⟨by omega, hG.2.2.2.2.1 (fun q hq => List.mem_append_left _ hq) ih⟩
theorem c_Ta_wholeBurden (hW : zOkW w) :
    zMet m_Ta_wholeBurden [.inr (.inr 0)] (wTa w ks ss n who ties) (fun v wd => v = some (.inr (.inl (2520 * zWeiN w 21))) ∧ wd = wTa w ks ss n who ties) := by
  have h := zWei21 hW
  refine zMet.of (own := RX4) rfl (by decide +kernel) tk_Ta_wholeBurden fok_Ta cok_Ta (Nat.le_of_ble_eq_true rfl) (fun G hG => ?_)
  refine hG.1 [] 80 _ _ _ _ ?_
  refine hG.2.1 (c_Su_weighed ) yv_Su_weighed lk_Ta_56 (by decide +kernel) rfl rfl [1, 2] (by decide +kernel) rfl rfl rfl (Nat.le_of_ble_eq_true rfl) (fun v w2 hv hl2 => ?_)
  obtain ⟨rfl, rfl⟩ := hv
  change G _ _ _ (wTa w ks (ss) n who ties)
  refine hG.1 [] 80 _ _ _ _ ?_
  exact ⟨by omega, trivial, rfl, rfl⟩
theorem c_Ta_burdenBy {g x : Nat} (hg : g < n) (hx : x ≤ 20) (hL : zOkL n who ties) (hS : zOkS ss n) (hW : zOkW w) :
    zMet m_Ta_burdenBy [.inr (.inr 0), .inl g, .inl x] (wTa w ks ss n who ties) (fun v wd => v = some (.inr (.inl (zFs w ss n who ties g x))) ∧ wd = wTa w ks ss n who ties) := by
  have hn := hL.1
  refine zMet.of (own := RX4) rfl (by decide +kernel) tk_Ta_burdenBy fok_Ta cok_Ta (Nat.le_of_ble_eq_true rfl) (fun G hG => ?_)
  refine hG.1 [] 80 _ _ _ _ ?_
  refine hG.2.1 (c_Co_slipOf hg hn) yv_Co_slipOf lk_Ta_59 (by decide +kernel) rfl rfl [3, 4, 5] (by decide +kernel) rfl rfl rfl (Nat.le_of_ble_eq_true rfl) (fun v w2 hv hl2 => ?_)
  obtain ⟨rfl, rfl⟩ := hv
  change G _ _ _ (wTa w ks (ss) n who ties)
  refine hG.1 [] 80 _ _ _ _ ?_
  refine hG.2.1 (c_Co_putSlip (x := (x : Int)) hg hn) yv_Co_putSlip lk_Ta_62 (by decide +kernel) rfl rfl [3, 4, 5] (by decide +kernel) rfl rfl rfl (Nat.le_of_ble_eq_true rfl) (fun v w2 hv hl2 => ?_)
  obtain ⟨rfl, rfl⟩ := hv
  change G _ _ _ (wTa w ks (z_u (ss) g ((x : Int))) n who ties)
  refine hG.1 [] 80 _ _ _ _ ?_
  refine hG.2.1 (c_Ta_burden (ss := z_u ss g x) hg hL (zOkS_u hS (by omega)) hW) yv_Ta_burden lk_Ta_66 (by decide +kernel) rfl rfl [0, 1, 2, 3, 4, 5] (by decide +kernel) rfl rfl rfl (Nat.le_of_ble_eq_true rfl) (fun v w2 hv hl2 => ?_)
  obtain ⟨rfl, rfl⟩ := hv
  change G _ _ _ (wTa w ks (z_u ss g x) n who ties)
  refine hG.1 [] 80 _ _ _ _ ?_
  refine hG.2.1 (c_Co_putSlip (ss := z_u ss g x) (x := ss g) hg hn) yv_Co_putSlip lk_Ta_62 (by decide +kernel) rfl rfl [3, 4, 5] (by decide +kernel) rfl rfl rfl (Nat.le_of_ble_eq_true rfl) (fun v w2 hv hl2 => ?_)
  obtain ⟨rfl, rfl⟩ := hv
  change G _ _ _ (wTa w ks (z_u (z_u ss g x) g (ss g)) n who ties)
  rw [z_u_back]
  refine hG.1 [] 80 _ _ _ _ ?_
  exact ⟨trivial, rfl, rfl⟩
theorem c_Ta_lightestSlip {g : Nat} (hg : g < n) (hL : zOkL n who ties) (hS : zOkS ss n) (hW : zOkW w) :
    zMet m_Ta_lightestSlip [.inr (.inr 0), .inl g] (wTa w ks ss n who ties) (fun v wd => v = some (.inl (zLi w ss n who ties g : Int)) ∧ wd = wTa w ks ss n who ties) := by
  have hn := hL.1
  have hwb := zWei21 hW
  refine zMet.of (own := RX4) rfl (by decide +kernel) tk_Ta_lightestSlip fok_Ta cok_Ta (Nat.le_of_ble_eq_true rfl) (fun G hG => ?_)
  refine hG.1 [] 80 _ _ _ _ ?_
  refine hG.2.1 (c_Co_slipOf hg hn) yv_Co_slipOf lk_Ta_59 (by decide +kernel) rfl rfl [3, 4, 5] (by decide +kernel) rfl rfl rfl (Nat.le_of_ble_eq_true rfl) (fun v w2 hv hl2 => ?_)
  obtain ⟨rfl, rfl⟩ := hv
  change G _ _ _ (wTa w ks (ss) n who ties)
  refine hG.1 [] 80 _ _ _ _ ?_
  refine hG.2.1 (c_Ta_wholeBurden hW) yv_Ta_wholeBurden lk_Ta_70 (by decide +kernel) rfl rfl [0, 1, 2, 3, 4, 5] (by decide +kernel) rfl rfl rfl (Nat.le_of_ble_eq_true rfl) (fun v w2 hv hl2 => ?_)
  obtain ⟨rfl, rfl⟩ := hv
  change G _ _ _ (wTa w ks (ss) n who ties)
  refine hG.1 [22] 80 _ _ _ _ ?_
  have hf : ∀ k, 0 ≤ zFs w ss n who ties g k ∧ zFs w ss n who ties g k ≤ 2520 * zWeiN w 21 + 1 := fun k => by
    have := zBu_in (w := w) (ss := z_u ss g k) (n := n) (who := who) (ties := ties) (g := g) hW
    unfold zFs; omega
  have hm := zMn_in (f := zFs w ss n who ties g) (L0 := 2520 * zWeiN w 21 + 1) (M := 2520 * zWeiN w 21 + 1) (by omega) hf
  suffices L : ∀ i, i ≤ 21 → ∀ s' : Int → Int, (∀ x, z_u s' g x = z_u ss g x) → zOkS s' n → G 22 [(0, .inr (.inr 0)), (1, .inl (g : Int)), (2, .inl (ss g)), (3, .inl (zAr (zFs w ss n who ties g) (2520 * zWeiN w 21 + 1) i : Int)), (4, .inr (.inl (zMn (zFs w ss n who ties g) (2520 * zWeiN w 21 + 1) i))), (6, .inl (i : Int))] [] (wTa w ks s' n who ties) from L 0 (by omega) ss (fun _ => rfl) hS
  refine z_up (fun s' hs' hok => ?_) (fun i hi ih s' hs' hok => ?_)
  · refine hG.1 [] 80 _ _ _ _ ?_
    refine ⟨by omega, fun h1 => ?_, fun h1 => absurd h1 (by omega)⟩
    refine hG.2.1 (c_Co_putSlip (ss := s') (x := ss g) hg hn) yv_Co_putSlip lk_Ta_62 (by decide +kernel) rfl rfl [3, 4, 5] (by decide +kernel) rfl rfl rfl (Nat.le_of_ble_eq_true rfl) (fun v w2 hv hl2 => ?_)
    obtain ⟨rfl, rfl⟩ := hv
    change G _ _ _ (wTa w ks (z_u (s') g (ss g)) n who ties)
    rw [hs', z_u_self]
    refine hG.1 [] 80 _ _ _ _ ?_
    exact ⟨trivial, rfl, rfl⟩
  · have e1 : zMn (zFs w ss n who ties g) (2520 * zWeiN w 21 + 1) (i + 1) = if zFs w ss n who ties g i < zMn (zFs w ss n who ties g) (2520 * zWeiN w 21 + 1) i then zFs w ss n who ties g i else zMn (zFs w ss n who ties g) (2520 * zWeiN w 21 + 1) i := rfl
    have e2 : zAr (zFs w ss n who ties g) (2520 * zWeiN w 21 + 1) (i + 1) = if zFs w ss n who ties g i < zMn (zFs w ss n who ties g) (2520 * zWeiN w 21 + 1) i then i else zAr (zFs w ss n who ties g) (2520 * zWeiN w 21 + 1) i := rfl
    have hfi := hf i
    have hmi := hm i
    have hok2 : zOkS (z_u ss g i) n := zOkS_u hS (by omega)
    have ih := ih (z_u ss g i) (fun x => z_u_u ss g i x) hok2
    refine hG.1 [22] 80 _ _ _ _ ?_
    refine ⟨by omega, fun h1 => absurd h1 (by omega), fun h1 => ?_⟩
    refine hG.2.1 (c_Co_putSlip (ss := s') (x := (i : Int)) hg hn) yv_Co_putSlip lk_Ta_62 (by decide +kernel) rfl rfl [3, 4, 5] (by decide +kernel) rfl rfl rfl (Nat.le_of_ble_eq_true rfl) (fun v w2 hv hl2 => ?_)
    obtain ⟨rfl, rfl⟩ := hv
    change G _ _ _ (wTa w ks (z_u (s') g ((i : Int))) n who ties)
    rw [hs']
    refine hG.1 [22] 80 _ _ _ _ ?_
    refine hG.2.1 (c_Ta_burden (ss := z_u ss g i) hg hL hok2 hW) yv_Ta_burden lk_Ta_66 (by decide +kernel) rfl rfl [0, 1, 2, 3, 4, 5] (by decide +kernel) rfl rfl rfl (Nat.le_of_ble_eq_true rfl) (fun v w2 hv hl2 => ?_)
    obtain ⟨rfl, rfl⟩ := hv
    change G _ _ _ (wTa w ks (z_u ss g i) n who ties)
    have back : zBu w (z_u ss g i) n who ties g = zFs w ss n who ties g i := rfl
    rw [back]
    refine hG.1 [22] 80 _ _ _ _ ?_
    refine ⟨by omega, fun h2 => ?_, fun h2 => ?_⟩
    · rw [e1, e2, if_neg (by omega), if_neg (by omega)] at ih
      exact hG.2.2.2.2.1 (fun q hq => List.mem_append_left _ hq) ih
    · rw [e1, e2, if_pos h2, if_pos h2] at ih
      exact hG.2.2.2.2.1 (fun q hq => List.mem_append_left _ hq) ih
theorem zLi_le {g : Nat} : zLi w ss n who ties g ≤ 20 := zAr_le _ _ 21
theorem c_Ta_betterSlip {g : Nat} (hg : g < n) (hL : zOkL n who ties) (hS : zOkS ss n) (hW : zOkW w) (hK : zOkK ks n) :
    zMet m_Ta_betterSlip [.inr (.inr 0), .inl g] (wTa w ks ss n who ties) (fun v wd => v = some (.inl (zBet w ks ss n who ties g)) ∧ wd = wTa w ks ss n who ties) := by
  have hn := hL.1
  have hwb := zWei21 hW
  refine zMet.of (own := RX4) rfl (by decide +kernel) tk_Ta_betterSlip fok_Ta cok_Ta (Nat.le_of_ble_eq_true rfl) (fun G hG => ?_)
  refine hG.1 [] 80 _ _ _ _ ?_
  refine hG.2.1 (c_Co_slipOf hg hn) yv_Co_slipOf lk_Ta_59 (by decide +kernel) rfl rfl [3, 4, 5] (by decide +kernel) rfl rfl rfl (Nat.le_of_ble_eq_true rfl) (fun v w2 hv hl2 => ?_)
  obtain ⟨rfl, rfl⟩ := hv
  change G _ _ _ (wTa w ks (ss) n who ties)
  refine hG.1 [] 80 _ _ _ _ ?_
  refine hG.2.1 (c_Co_isNought hg hn (hK g hg)) yv_Co_isNought lk_Ta_74 (by decide +kernel) rfl rfl [3, 4, 5] (by decide +kernel) rfl rfl rfl (Nat.le_of_ble_eq_true rfl) (fun v w2 hv hl2 => ?_)
  obtain ⟨⟨hc, rfl⟩ | ⟨hc, rfl⟩, rfl⟩ := hv
  · change G _ _ _ (wTa w ks (ss) n who ties)
    refine hG.1 [] 80 _ _ _ _ ?_
    refine ⟨by omega, fun h1 => absurd h1 (by omega), fun h1 => ?_⟩
    exact ⟨trivial, by rw [zBet, if_pos hc], rfl⟩
  · change G _ _ _ (wTa w ks (ss) n who ties)
    refine hG.1 [] 80 _ _ _ _ ?_
    refine ⟨by omega, fun h1 => ?_, fun h1 => absurd rfl h1⟩
    refine hG.2.1 (c_Ta_lightestSlip hg hL hS hW) yv_Ta_lightestSlip lk_Ta_78 (by decide +kernel) rfl rfl [0, 1, 2, 3, 4, 5] (by decide +kernel) rfl rfl rfl (Nat.le_of_ble_eq_true rfl) (fun v w2 hv hl2 => ?_)
    obtain ⟨rfl, rfl⟩ := hv
    change G _ _ _ (wTa w ks (ss) n who ties)
    refine hG.1 [] 80 _ _ _ _ ?_
    refine hG.2.1 (c_Ta_burdenBy (x := zLi w ss n who ties g) hg zLi_le hL hS hW) yv_Ta_burdenBy lk_Ta_81 (by decide +kernel) rfl rfl [0, 1, 2, 3, 4, 5] (by decide +kernel) rfl rfl rfl (Nat.le_of_ble_eq_true rfl) (fun v w2 hv hl2 => ?_)
    obtain ⟨rfl, rfl⟩ := hv
    change G _ _ _ (wTa w ks (ss) n who ties)
    refine hG.1 [] 80 _ _ _ _ ?_
    refine hG.2.1 (c_Ta_burden hg hL hS hW) yv_Ta_burden lk_Ta_66 (by decide +kernel) rfl rfl [0, 1, 2, 3, 4, 5] (by decide +kernel) rfl rfl rfl (Nat.le_of_ble_eq_true rfl) (fun v w2 hv hl2 => ?_)
    obtain ⟨rfl, rfl⟩ := hv
    change G _ _ _ (wTa w ks (ss) n who ties)
    have b1 := zBu_in (w := w) (ss := ss) (n := n) (who := who) (ties := ties) (g := g) hW
    have b2 : 0 ≤ zFs w ss n who ties g (zLi w ss n who ties g) ∧ zFs w ss n who ties g (zLi w ss n who ties g) ≤ 2520 * zWeiN w 21 := zBu_in hW
    refine hG.1 [] 80 _ _ _ _ ?_
    refine ⟨by omega, fun h2 => ?_, fun h2 => ?_⟩
    · exact ⟨trivial, by rw [zBet, if_neg hc, if_neg (by omega)], rfl⟩
    · exact ⟨trivial, by rw [zBet, if_neg hc, if_pos h2], rfl⟩
theorem zBet_in {g : Nat} (hg : g < n) (hS : zOkS ss n) : 0 ≤ zBet w ks ss n who ties g ∧ zBet w ks ss n who ties g ≤ 20 := by
  have h1 := hS g hg
  have h2 := zLi_le (w := w) (ss := ss) (n := n) (who := who) (ties := ties) (g := g)
  unfold zBet; split
  · exact h1
  · split <;> omega
theorem c_Ta_nobodyWouldChange (hL : zOkL n who ties) (hS : zOkS ss n) (hW : zOkW w) (hK : zOkK ks n) :
    zMet m_Ta_nobodyWouldChange [.inr (.inr 0)] (wTa w ks ss n who ties) (fun v wd => z_bool (∀ g : Nat, g < n → zBet w ks ss n who ties g = ss g) v ∧ wd = wTa w ks ss n who ties) := by
  have hn := hL.1
  refine zMet.of (own := RX4) rfl (by decide +kernel) tk_Ta_nobodyWouldChange fok_Ta cok_Ta (Nat.le_of_ble_eq_true rfl) (fun G hG => ?_)
  refine hG.1 [2] 80 _ _ _ _ ?_
  suffices L : ∀ i, i ≤ n → ((∀ g : Nat, g < i → zBet w ks ss n who ties g = ss g) → G 2 [(0, .inr (.inr 0)), (1, .inl (i : Int))] [] (wTa w ks ss n who ties)) from L 0 (by omega) (fun g h => by omega)
  refine z_up (fun hb => ?_) (fun i hi ih hb => ?_)
  · refine hG.1 [] 80 _ _ _ _ ?_
    refine hG.2.1 (c_Co_size ) yv_Co_size lk_Ta_85 (by decide +kernel) rfl rfl [3, 4, 5] (by decide +kernel) rfl rfl rfl (Nat.le_of_ble_eq_true rfl) (fun v w2 hv hl2 => ?_)
    obtain ⟨rfl, rfl⟩ := hv
    change G _ _ _ (wTa w ks (ss) n who ties)
    refine hG.1 [] 80 _ _ _ _ ?_
    refine ⟨by omega, fun h1 => ?_, fun h1 => absurd h1 (by omega)⟩
    exact ⟨Or.inr rfl, Or.inl ⟨hb, rfl⟩, rfl⟩
  · have hbi := zBet_in (w := w) (ks := ks) (ss := ss) (who := who) (ties := ties) hi hS
    have hsi := hS i hi
    refine hG.1 [] 80 _ _ _ _ ?_
    refine hG.2.1 (c_Co_size ) yv_Co_size lk_Ta_85 (by decide +kernel) rfl rfl [3, 4, 5] (by decide +kernel) rfl rfl rfl (Nat.le_of_ble_eq_true rfl) (fun v w2 hv hl2 => ?_)
    obtain ⟨rfl, rfl⟩ := hv
    change G _ _ _ (wTa w ks (ss) n who ties)
    refine hG.1 [] 80 _ _ _ _ ?_
    refine ⟨by omega, fun h1 => absurd h1 (by omega), fun h1 => ?_⟩
    refine hG.2.1 (c_Ta_betterSlip hi hL hS hW hK) yv_Ta_betterSlip lk_Ta_88 (by decide +kernel) rfl rfl [0, 1, 2, 3, 4, 5] (by decide +kernel) rfl rfl rfl (Nat.le_of_ble_eq_true rfl) (fun v w2 hv hl2 => ?_)
    obtain ⟨rfl, rfl⟩ := hv
    change G _ _ _ (wTa w ks (ss) n who ties)
    refine hG.1 [] 80 _ _ _ _ ?_
    refine hG.2.1 (c_Co_slipOf hi hn) yv_Co_slipOf lk_Ta_59 (by decide +kernel) rfl rfl [3, 4, 5] (by decide +kernel) rfl rfl rfl (Nat.le_of_ble_eq_true rfl) (fun v w2 hv hl2 => ?_)
    obtain ⟨rfl, rfl⟩ := hv
    change G _ _ _ (wTa w ks (ss) n who ties)
    refine hG.1 [2] 80 _ _ _ _ ?_
    refine ⟨by omega, fun h2 => ?_, fun h2 => ?_⟩
    · exact ih (fun g hg => by
        rcases Nat.lt_succ_iff_lt_or_eq.mp hg with h | rfl
        · exact hb g h
        · exact h2)
    · exact ⟨Or.inl rfl, Or.inr ⟨fun z => h2 (z i hi), rfl⟩, rfl⟩
theorem c_Ta_takeTurns {t : Nat} (ht : t ≤ 40) (hL : zOkL n who ties) (hS : zOkS ss n) (hW : zOkW w) (hK : zOkK ks n) :
    zMet m_Ta_takeTurns [.inr (.inr 0), .inl t] (wTa w ks ss n who ties) (fun v wd => v = some (.inl ((zTk w ks n who ties t 0 0 0 ss).1 : Int)) ∧ wd = wTa w ks (zTk w ks n who ties t 0 0 0 ss).2 n who ties) := by
  have hn := hL.1
  refine zMet.of (own := RX4) rfl (by decide +kernel) tk_Ta_takeTurns fok_Ta cok_Ta (Nat.le_of_ble_eq_true rfl) (fun G hG => ?_)
  refine hG.1 [10] 80 _ _ _ _ ?_
  have key : ∀ d i : Nat, i + d = t → ∀ (g kept ch : Nat) (s : Int → Int), (0 < n → g < n) → kept ≤ n → ch ≤ i → zOkS s n → zTk w ks n who ties d g kept ch s = zTk w ks n who ties t 0 0 0 ss →
      G 10 [(0, .inr (.inr 0)), (1, .inl (t : Int)), (2, .inl (ch : Int)), (3, .inl (kept : Int)), (4, .inl (g : Int)), (5, .inl (i : Int))] [] (wTa w ks s n who ties) := by
    intro d
    induction d with
    | zero =>
      intro i hi g kept ch s hg hk hch hs he
      refine hG.1 [] 80 _ _ _ _ ?_
      refine ⟨by omega, fun h1 => ?_, fun h1 => absurd h1 (by omega)⟩
      exact ⟨trivial, by rw [← he]; rfl, by rw [← he]; rfl⟩
    | succ d ih =>
      intro i hi g kept ch s hg hk hch hs he
      refine hG.1 [] 80 _ _ _ _ ?_
      refine ⟨by omega, fun h1 => absurd h1 (by omega), fun h1 => ?_⟩
      refine hG.2.1 (c_Co_size (ss := s)) yv_Co_size lk_Ta_85 (by decide +kernel) rfl rfl [3, 4, 5] (by decide +kernel) rfl rfl rfl (Nat.le_of_ble_eq_true rfl) (fun v w2 hv hl2 => ?_)
      obtain ⟨rfl, rfl⟩ := hv
      change G _ _ _ (wTa w ks (s) n who ties)
      have he2 : (if ¬ kept < n then (ch, s) else if zBet w ks s n who ties g = s g then zTk w ks n who ties d (if g + 1 < n then g + 1 else 0) (kept + 1) ch s else zTk w ks n who ties d (if g + 1 < n then g + 1 else 0) 0 (ch + 1) (z_u s g (zBet w ks s n who ties g))) = zTk w ks n who ties t 0 0 0 ss := he
      refine hG.1 [] 80 _ _ _ _ ?_
      refine ⟨by omega, fun h2 => ?_, fun h2 => ?_⟩
      · rw [if_pos (by omega)] at he2
        exact ⟨trivial, by rw [← he2], by rw [← he2]⟩
      · rw [if_neg (by omega)] at he2
        have hgn : g < n := hg (by omega)
        have hsg := hs g hgn
        have hbi := zBet_in (w := w) (ks := ks) (ss := s) (who := who) (ties := ties) hgn hs
        -- the next guest
        have tail : ∀ (kept' ch' : Nat) (s' : Int → Int) (bv : Int), kept' ≤ n → ch' ≤ i + 1 → zOkS s' n → zTk w ks n who ties d (if g + 1 < n then g + 1 else 0) kept' ch' s' = zTk w ks n who ties t 0 0 0 ss →
            G 71 [(0, .inr (.inr 0)), (1, .inl (t : Int)), (2, .inl (ch' : Int)), (3, .inl (kept' : Int)), (4, .inl (g : Int)), (5, .inl (i : Int)), (6, .inl bv)] [] (wTa w ks s' n who ties) := by
          intro kept' ch' s' bv hk' hch' hs' he'
          refine hG.1 [] 80 _ _ _ _ ?_
          refine hG.2.1 (c_Co_size (ss := s')) yv_Co_size lk_Ta_85 (by decide +kernel) rfl rfl [3, 4, 5] (by decide +kernel) rfl rfl rfl (Nat.le_of_ble_eq_true rfl) (fun v w2 hv hl2 => ?_)
          obtain ⟨rfl, rfl⟩ := hv
          change G _ _ _ (wTa w ks (s') n who ties)
          refine hG.1 [10] 80 _ _ _ _ ?_
          refine ⟨by omega, fun h5 => ?_, fun h5 => ?_⟩
          · rw [if_neg (by omega)] at he'
            exact hG.2.2.2.2.1 (fun q hq => List.mem_append_left _ hq) (ih (i + 1) (by omega) 0 kept' ch' s' (by omega) hk' hch' hs' he')
          · rw [if_pos (by omega)] at he'
            exact hG.2.2.2.2.1 (fun q hq => List.mem_append_left _ hq) (ih (i + 1) (by omega) (g + 1) kept' ch' s' (by omega) hk' hch' hs' he')
        refine hG.2.1 (c_Ta_betterSlip (ss := s) hgn hL hs hW hK) yv_Ta_betterSlip lk_Ta_88 (by decide +kernel) rfl rfl [0, 1, 2, 3, 4, 5] (by decide +kernel) rfl rfl rfl (Nat.le_of_ble_eq_true rfl) (fun v w2 hv hl2 => ?_)
        obtain ⟨rfl, rfl⟩ := hv
        change G _ _ _ (wTa w ks (s) n who ties)
        refine hG.1 [] 80 _ _ _ _ ?_
        refine hG.2.1 (c_Co_slipOf (ss := s) hgn hn) yv_Co_slipOf lk_Ta_59 (by decide +kernel) rfl rfl [3, 4, 5] (by decide +kernel) rfl rfl rfl (Nat.le_of_ble_eq_true rfl) (fun v w2 hv hl2 => ?_)
        obtain ⟨rfl, rfl⟩ := hv
        change G _ _ _ (wTa w ks (s) n who ties)
        refine hG.1 [71] 80 _ _ _ _ ?_
        refine ⟨by omega, fun h3 => ?_, fun h3 => ?_⟩
        · rw [if_neg h3] at he2
          refine hG.2.1 (c_Co_putSlip (ss := s) (x := zBet w ks s n who ties g) hgn hn) yv_Co_putSlip lk_Ta_62 (by decide +kernel) rfl rfl [3, 4, 5] (by decide +kernel) rfl rfl rfl (Nat.le_of_ble_eq_true rfl) (fun v w2 hv hl2 => ?_)
          obtain ⟨rfl, rfl⟩ := hv
          change G _ _ _ (wTa w ks (z_u (s) g (zBet w ks s n who ties g)) n who ties)
          refine hG.1 [71] 80 _ _ _ _ ?_
          exact tail 0 (ch + 1) (z_u s g (zBet w ks s n who ties g)) _ (by omega) (by omega) (zOkS_u hs hbi) he2
        · rw [if_pos h3] at he2
          exact tail (kept + 1) ch s _ (by omega) (by omega) hs he2
  exact key t 0 (by omega) 0 0 0 ss (fun h => h) (by omega) (by omega) hS rfl
end Ta
