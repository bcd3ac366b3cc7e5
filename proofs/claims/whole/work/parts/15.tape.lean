/-! THE TAPE of the class -/
abbrev wTp (b : Int → Int) (n p : Nat) (fl : Int) : zW := [.inl (5, [.inr (.inr 1), .inl (n : Int), .inl (p : Int), .inl fl]), .inr (0, (80, .inl b))]
abbrev wTpSu (b : Int → Int) (n p : Nat) (fl : Int) (w : Int → Int) : zW := [.inl (5, [.inr (.inr 1), .inl (n : Int), .inl (p : Int), .inl fl]), .inr (0, (80, .inl b)), .inl (3, [.inr (.inr 3)]), .inr (0, (21, .inl w))]
abbrev wTpCo (b : Int → Int) (n p : Nat) (fl : Int) (ks ss : Int → Int) (m : Nat) (who ties : Int) : zW := [.inl (5, [.inr (.inr 1), .inl (n : Int), .inl (p : Int), .inl fl]), .inr (0, (80, .inl b)), .inl (0, [.inr (.inr 3), .inr (.inr 4), .inl (m : Int), .inl who, .inl ties]), .inr (0, (9, .inl ks)), .inr (0, (9, .inl ss))]
def zScan (c : Int → Bool) (b : Int → Int) : Nat → Nat → Nat
  | 0, p => p
  | d + 1, p => if c (b p) = true then zScan c b d (p + 1) else p
theorem zScan_step {c : Int → Bool} {b : Int → Int} {n p : Nat} (h : p < n) (hc : c (b p) = true) : zScan c b (n - p) p = zScan c b (n - (p + 1)) (p + 1) := by
  rw [show n - p = (n - (p + 1)) + 1 by omega]
  show (if c (b p) = true then _ else _) = _
  rw [if_pos hc]
theorem zScan_stop {c : Int → Bool} {b : Int → Int} {n p : Nat} (h : ¬ (p < n ∧ c (b p) = true)) : zScan c b (n - p) p = p := by
  cases hd : n - p with
  | zero => rfl
  | succ d =>
    show (if c (b p) = true then _ else _) = _
    rw [if_neg (fun q => h ⟨by omega, q⟩)]
theorem zScan_in {c : Int → Bool} {b : Int → Int} : ∀ d p, p ≤ zScan c b d p ∧ zScan c b d p ≤ p + d
  | 0, p => by unfold zScan; omega
  | d + 1, p => by
    have := zScan_in (c := c) (b := b) d (p + 1)
    unfold zScan; split <;> omega
theorem zScan_end {c : Int → Bool} {b : Int → Int} : ∀ d p, zScan c b d p < p + d → c (b (zScan c b d p)) = false
  | 0, p, h => by unfold zScan at h; omega
  | d + 1, p, h => by
    unfold zScan at h ⊢
    split at h
    · rename_i hc; rw [if_pos hc]; exact zScan_end d (p + 1) (by omega)
    · rename_i hc; rw [if_neg hc]; simpa using hc
def zSk (b : Int → Int) (n p : Nat) : Nat := zScan (fun x => decide (x = 32)) b (n - p) p
def zDg (b : Int → Int) (n p : Nat) : Nat := zScan (fun x => decide (48 ≤ x ∧ x ≤ 57)) b (n - p) p
theorem zSk_in {b : Int → Int} {n p : Nat} (h : p ≤ n) : p ≤ zSk b n p ∧ zSk b n p ≤ n := by
  have := zScan_in (c := fun x => decide (x = 32)) (b := b) (n - p) p
  unfold zSk; omega
theorem zDg_in {b : Int → Int} {n p : Nat} (h : p ≤ n) : p ≤ zDg b n p ∧ zDg b n p ≤ n := by
  have := zScan_in (c := fun x => decide (48 ≤ x ∧ x ≤ 57)) (b := b) (n - p) p
  unfold zDg; omega
theorem zSk_end {b : Int → Int} {n p : Nat} (h : p ≤ n) (h2 : zSk b n p < n) : b (zSk b n p) ≠ 32 := by
  have := zScan_end (c := fun x => decide (x = 32)) (b := b) (n - p) p (by unfold zSk at h2; omega)
  intro q
  exact absurd this (by unfold zSk at q; simp [q])
theorem zSk_id {b : Int → Int} {n p : Nat} (h : p ≤ n) : zSk b n (zSk b n p) = zSk b n p := by
  have h0 := zSk_in (b := b) h
  generalize hq : zSk b n p = q at h0
  show zScan _ b (n - q) q = q
  refine zScan_stop (fun z => ?_)
  have := zSk_end (b := b) h (by rw [hq]; exact z.1)
  rw [hq] at this
  exact this (by simpa using z.2)
def zNmS (b : Int → Int) : Nat → Nat → Int → Int
  | 0, _, acc => acc
  | d + 1, p, acc => if 48 ≤ b p ∧ b p ≤ 57 then zNmS b d (p + 1) (if 10 * acc + b p - 48 ≤ 1000 then 10 * acc + b p - 48 else 1000) else acc
def zNum (b : Int → Int) (n p : Nat) : Int := zNmS b (n - p) p 0
def zFl (fl : Int) (x : Nat) : Int := if fl = 0 then -20 - (x : Int) else fl
abbrev zBadNum (b : Int → Int) (n p : Nat) (lo hi : Int) : Prop := zDg b n p = p ∨ zNum b n p < lo ∨ hi < zNum b n p
def zNx (b : Int → Int) (n q : Nat) : Int := if q < n then b q else -1
theorem zNmS_in (b : Int → Int) : ∀ d p acc, 0 ≤ acc ∧ acc ≤ 1000 → 0 ≤ zNmS b d p acc ∧ zNmS b d p acc ≤ 1000
  | 0, p, acc, h => h
  | d + 1, p, acc, h => by
    unfold zNmS; split
    · exact zNmS_in b d (p + 1) _ (by split <;> omega)
    · exact h
theorem zNum_in (b : Int → Int) (n p : Nat) : 0 ≤ zNum b n p ∧ zNum b n p ≤ 1000 := zNmS_in b _ _ _ (by omega)
theorem c_Tp_isFigure {x : Int} (h : -2147483648 ≤ x ∧ x ≤ 2147483647) : zMet m_Tp_isFigure [.inl x] [] (fun v w => z_bool (48 ≤ x ∧ x ≤ 57) v ∧ w = []) := by
  refine zMet.of (own := RX5) rfl (by decide +kernel) tk_Tp_isFigure fok_Tp cok_Tp (Nat.le_of_ble_eq_true rfl) (fun G hG => ?_)
  refine hG.1 [] 80 _ _ _ _ ?_
  refine ⟨by omega, fun h1 => ?_, fun h1 => ?_⟩
  · exact ⟨Or.inl rfl, Or.inr ⟨by omega, rfl⟩, rfl⟩
  · refine ⟨by omega, fun h2 => ?_, fun h2 => ?_⟩
    · exact ⟨Or.inl rfl, Or.inr ⟨by omega, rfl⟩, rfl⟩
    · exact ⟨Or.inr rfl, Or.inl ⟨by omega, rfl⟩, rfl⟩
def zKind (x : Int) : Int := if x = 102 then 1 else if x = 107 then 3 else if x = 110 then 2 else if x = 115 then 0 else -1
theorem c_Tp_kindBy {x : Int} (h : -2147483648 ≤ x ∧ x ≤ 2147483647) : zMet m_Tp_kindBy [.inl x] [] (fun v w => v = some (.inl (zKind x)) ∧ w = []) := by
  refine zMet.of (own := RX5) rfl (by decide +kernel) tk_Tp_kindBy fok_Tp cok_Tp (Nat.le_of_ble_eq_true rfl) (fun G hG => ?_)
  refine hG.1 [] 80 _ _ _ _ ?_
  refine ⟨by omega, fun h1 => ?_, fun h1 => ⟨fun h2 => ?_, fun h2 => ⟨fun h3 => ?_, fun h3 => ⟨fun h4 => ?_, fun h4 => ?_⟩⟩⟩⟩
  · exact ⟨trivial, by rw [zKind, if_pos h1], rfl⟩
  · exact ⟨trivial, by rw [zKind, if_neg h1, if_pos h2], rfl⟩
  · exact ⟨trivial, by rw [zKind, if_neg h1, if_neg h2, if_pos h3], rfl⟩
  · exact ⟨trivial, by rw [zKind, if_neg h1, if_neg h2, if_neg h3, if_pos h4], rfl⟩
  · exact ⟨trivial, by rw [zKind, if_neg h1, if_neg h2, if_neg h3, if_neg h4], rfl⟩
section Tp
variable {b : Int → Int} {n p : Nat} {fl : Int}
theorem c_Tp_size : zMet m_Tp_size [.inr (.inr 0)] (wTp b n p fl) (fun v w => v = some (.inl (n : Int)) ∧ w = wTp b n p fl) := by
  refine zMet.of (own := RX5) rfl (by decide +kernel) tk_Tp_size fok_Tp cok_Tp (Nat.le_of_ble_eq_true rfl) (fun G hG => ?_)
  refine hG.1 [] 80 _ _ _ _ ?_
  exact ⟨trivial, rfl, rfl⟩
theorem c_Tp_append {x : Int} (hn : n < 80) : zMet m_Tp_append [.inr (.inr 0), .inl x] (wTp b n p fl) (fun v w => v = none ∧ w = wTp (z_u b n x) (n + 1) p fl) := by
  refine zMet.of (own := RX5) rfl (by decide +kernel) tk_Tp_append fok_Tp cok_Tp (Nat.le_of_ble_eq_true rfl) (fun G hG => ?_)
  refine hG.1 [] 80 _ _ _ _ ?_
  refine ⟨by omega, fun h1 => absurd h1 (by omega), fun h1 => ?_⟩
  exact ⟨by omega, trivial, rfl, rfl⟩
theorem c_Tp_begin : zMet m_Tp_begin [.inr (.inr 0)] (wTp b n p fl) (fun v w => v = none ∧ w = wTp b n 0 0) := by
  refine zMet.of (own := RX5) rfl (by decide +kernel) tk_Tp_begin fok_Tp cok_Tp (Nat.le_of_ble_eq_true rfl) (fun G hG => ?_)
  refine hG.1 [] 80 _ _ _ _ ?_
  exact ⟨trivial, rfl, rfl⟩
theorem c_Tp_faultAt {x : Nat} (hf : -1000 ≤ fl ∧ fl ≤ 0) : zMet m_Tp_faultAt [.inr (.inr 0), .inl x] (wTp b n p fl) (fun v w => v = none ∧ w = wTp b n p (zFl fl x)) := by
  refine zMet.of (own := RX5) rfl (by decide +kernel) tk_Tp_faultAt fok_Tp cok_Tp (Nat.le_of_ble_eq_true rfl) (fun G hG => ?_)
  refine hG.1 [] 80 _ _ _ _ ?_
  refine ⟨by omega, fun h1 => ?_, fun h1 => ?_⟩
  · exact ⟨trivial, rfl, by rw [zFl, if_neg h1]⟩
  · exact ⟨trivial, rfl, by rw [zFl, if_pos h1]; rfl⟩
theorem c_Tp_skipBlanks (hn : n ≤ 80) (hp : p ≤ n) (hb : ∀ j : Nat, j < n → 32 ≤ b j ∧ b j ≤ 126) : zMet m_Tp_skipBlanks [.inr (.inr 0)] (wTp b n p fl) (fun v w => v = none ∧ w = wTp b n (zSk b n p) fl) := by
  refine zMet.of (own := RX5) rfl (by decide +kernel) tk_Tp_skipBlanks fok_Tp cok_Tp (Nat.le_of_ble_eq_true rfl) (fun G hG => ?_)
  have key : ∀ d q : Nat, q + d = n → zSk b n q = zSk b n p → G 0 [(0, .inr (.inr 0))] [] (wTp b n q fl) := by
    intro d
    induction d with
    | zero =>
      intro q hq he
      have : zSk b n q = q := zScan_stop (by omega)
      refine hG.1 [0] 80 _ _ _ _ ?_
      refine ⟨by omega, fun h1 => ?_, fun h1 => absurd h1 (by omega)⟩
      exact ⟨trivial, rfl, by rw [← he, this]⟩
    | succ d ih =>
      intro q hq he
      have hbq := hb q (by omega)
      refine hG.1 [0] 80 _ _ _ _ ?_
      refine ⟨by omega, fun h1 => absurd h1 (by omega), fun h1 => ?_⟩
      refine ⟨by omega, by omega, fun h2 => ?_, fun h2 => ?_⟩
      · have : zSk b n q = q := zScan_stop (fun z => h2 (by simpa using z.2))
        exact ⟨trivial, rfl, by rw [← he, this]⟩
      · have : zSk b n q = zSk b n (q + 1) := zScan_step (by omega) (by simpa using h2)
        exact ih (q + 1) (by omega) (by rw [← this]; exact he)
  exact key (n - p) p (by omega) rfl
theorem c_Tp_next (hn : n ≤ 80) (hp : p ≤ n) (hb : ∀ j : Nat, j < n → 32 ≤ b j ∧ b j ≤ 126) : zMet m_Tp_next [.inr (.inr 0)] (wTp b n p fl) (fun v w => v = some (.inl (zNx b n (zSk b n p))) ∧ w = wTp b n (zSk b n p) fl) := by
  have h0 := zSk_in (b := b) hp
  refine zMet.of (own := RX5) rfl (by decide +kernel) tk_Tp_next fok_Tp cok_Tp (Nat.le_of_ble_eq_true rfl) (fun G hG => ?_)
  refine hG.1 [] 80 _ _ _ _ ?_
  refine hG.2.1 (c_Tp_skipBlanks hn hp hb) yv_Tp_skipBlanks lk_Tp_48 (by decide +kernel) rfl rfl [0, 1] (by decide +kernel) rfl rfl rfl (Nat.le_of_ble_eq_true rfl) (fun v w2 hv hl2 => ?_)
  obtain ⟨rfl, rfl⟩ := hv
  refine hG.1 [] 80 _ _ _ _ ?_
  refine ⟨by omega, fun h1 => ?_, fun h1 => ?_⟩
  · exact ⟨trivial, by rw [zNx, if_neg (by omega)], rfl⟩
  · exact ⟨by omega, trivial, by rw [zNx, if_pos (by omega)], rfl⟩
theorem zNx_in (hb : ∀ j : Nat, j < n → 32 ≤ b j ∧ b j ≤ 126) (q : Nat) : -1 ≤ zNx b n q ∧ zNx b n q ≤ 126 := by
  unfold zNx; split
  · have := hb q (by omega); omega
  · omega
theorem c_Tp_readKind (hn : n ≤ 80) (hp : p ≤ n) (hb : ∀ j : Nat, j < n → 32 ≤ b j ∧ b j ≤ 126) (hf : -1000 ≤ fl ∧ fl ≤ 0) : zMet m_Tp_readKind [.inr (.inr 0)] (wTp b n p fl) (fun v w => v = some (.inl (zKind (zNx b n (zSk b n p)))) ∧ w = (if zKind (zNx b n (zSk b n p)) < 0 then wTp b n (zSk b n p) (zFl fl (zSk b n p)) else wTp b n (zSk b n p + 1) fl)) := by
  have h0 := zSk_in (b := b) hp
  have h1 := zNx_in hb (zSk b n p)
  have hk : -1 ≤ zKind (zNx b n (zSk b n p)) ∧ zKind (zNx b n (zSk b n p)) ≤ 3 := by
    unfold zKind; repeat' split
    all_goals omega
  refine zMet.of (own := RX5) rfl (by decide +kernel) tk_Tp_readKind fok_Tp cok_Tp (Nat.le_of_ble_eq_true rfl) (fun G hG => ?_)
  refine hG.1 [] 80 _ _ _ _ ?_
  refine hG.2.1 (c_Tp_next hn hp hb) yv_Tp_next lk_Tp_74 (by decide +kernel) rfl rfl [0, 1] (by decide +kernel) rfl rfl rfl (Nat.le_of_ble_eq_true rfl) (fun v w2 hv hl2 => ?_)
  obtain ⟨rfl, rfl⟩ := hv
  refine hG.1 [] 80 _ _ _ _ ?_
  refine hG.2.2.1 (c_Tp_kindBy (x := zNx b n (zSk b n p)) (by omega)) ys_Tp_kindBy (Or.inl lk_Tp_84) (by decide +kernel) rfl [] (by decide +kernel) rfl rfl rfl (Nat.le_of_ble_eq_true rfl) (fun v w2 hv hl2 => ?_)
  obtain ⟨rfl, rfl⟩ := hv
  refine hG.1 [] 80 _ _ _ _ ?_
  refine ⟨by omega, fun h2 => ?_, fun h2 => ?_⟩
  · exact ⟨trivial, rfl, by rw [if_neg (by omega)]; rfl⟩
  · refine hG.2.1 (c_Tp_faultAt hf) yv_Tp_faultAt lk_Tp_59 (by decide +kernel) rfl rfl [0, 1] (by decide +kernel) rfl rfl rfl (Nat.le_of_ble_eq_true rfl) (fun v w2 hv hl2 => ?_)
    obtain ⟨rfl, rfl⟩ := hv
    refine hG.1 [] 80 _ _ _ _ ?_
    exact ⟨trivial, rfl, by rw [if_pos h2]; rfl⟩
theorem c_Tp_readSign {x : Int} (hn : n ≤ 80) (hp : p ≤ n) (hb : ∀ j : Nat, j < n → 32 ≤ b j ∧ b j ≤ 126) (hf : -1000 ≤ fl ∧ fl ≤ 0) (hx : 0 ≤ x ∧ x ≤ 1000) : zMet m_Tp_readSign [.inr (.inr 0), .inl x] (wTp b n p fl) (fun v w => v = none ∧ w = (if zNx b n (zSk b n p) = x then wTp b n (zSk b n p + 1) fl else wTp b n (zSk b n p) (zFl fl (zSk b n p)))) := by
  have h0 := zSk_in (b := b) hp
  have h1 := zNx_in hb (zSk b n p)
  refine zMet.of (own := RX5) rfl (by decide +kernel) tk_Tp_readSign fok_Tp cok_Tp (Nat.le_of_ble_eq_true rfl) (fun G hG => ?_)
  refine hG.1 [] 80 _ _ _ _ ?_
  refine hG.2.1 (c_Tp_next hn hp hb) yv_Tp_next lk_Tp_74 (by decide +kernel) rfl rfl [0, 1] (by decide +kernel) rfl rfl rfl (Nat.le_of_ble_eq_true rfl) (fun v w2 hv hl2 => ?_)
  obtain ⟨rfl, rfl⟩ := hv
  refine hG.1 [] 80 _ _ _ _ ?_
  refine ⟨by omega, fun h2 => ?_, fun h2 => ?_⟩
  · refine hG.2.1 (c_Tp_faultAt hf) yv_Tp_faultAt lk_Tp_59 (by decide +kernel) rfl rfl [0, 1] (by decide +kernel) rfl rfl rfl (Nat.le_of_ble_eq_true rfl) (fun v w2 hv hl2 => ?_)
    obtain ⟨rfl, rfl⟩ := hv
    refine hG.1 [] 80 _ _ _ _ ?_
    exact ⟨trivial, rfl, by rw [if_neg h2]; rfl⟩
  · exact ⟨trivial, rfl, by rw [if_pos h2]; rfl⟩
theorem c_Tp_goesOn {x m : Int} (hn : n ≤ 80) (hp : p ≤ n) (hb : ∀ j : Nat, j < n → 32 ≤ b j ∧ b j ≤ 126) (hf : -1000 ≤ fl ∧ fl ≤ 0) (hx : 0 ≤ x ∧ x ≤ 1000) (hm : m = 0 ∨ m = 1) : zMet m_Tp_goesOn [.inr (.inr 0), .inl x, .inl m] (wTp b n p fl)
    (fun v w => (fl ≠ 0 ∧ v = some (.inl 0) ∧ w = wTp b n p fl) ∨ (fl = 0 ∧ ¬ zSk b n p < n ∧ v = some (.inl 0) ∧ w = wTp b n (zSk b n p) fl) ∨ (fl = 0 ∧ zSk b n p < n ∧ ¬ (b (zSk b n p) = x ∧ m = 1) ∧ v = some (.inl 0) ∧ w = wTp b n (zSk b n p) (-20 - (zSk b n p : Int))) ∨ (fl = 0 ∧ zSk b n p < n ∧ b (zSk b n p) = x ∧ m = 1 ∧ v = some (.inl 1) ∧ w = wTp b n (zSk b n p + 1) 0)) := by
  have h0 := zSk_in (b := b) hp
  have h1 := zNx_in hb (zSk b n p)
  refine zMet.of (own := RX5) rfl (by decide +kernel) tk_Tp_goesOn fok_Tp cok_Tp (Nat.le_of_ble_eq_true rfl) (fun G hG => ?_)
  refine hG.1 [] 80 _ _ _ _ ?_
  refine ⟨by omega, fun h2 => ?_, fun h2 => ?_⟩
  · exact ⟨Or.inl rfl, Or.inl ⟨h2, rfl, rfl⟩⟩
  · subst h2
    refine hG.2.1 (c_Tp_next hn hp hb) yv_Tp_next lk_Tp_74 (by decide +kernel) rfl rfl [0, 1] (by decide +kernel) rfl rfl rfl (Nat.le_of_ble_eq_true rfl) (fun v w2 hv hl2 => ?_)
    obtain ⟨rfl, rfl⟩ := hv
    refine hG.1 [] 80 _ _ _ _ ?_
    refine ⟨by omega, fun h3 => ?_, fun h3 => ?_⟩
    · have hlt : zSk b n p < n := by
        unfold zNx at h3; split at h3
        · assumption
        · omega
      have hx1 : zNx b n (zSk b n p) = b (zSk b n p) := by rw [zNx, if_pos hlt]
      refine hG.2.1 (c_Tp_next hn h0.2 hb) yv_Tp_next lk_Tp_74 (by decide +kernel) rfl rfl [0, 1] (by decide +kernel) rfl rfl rfl (Nat.le_of_ble_eq_true rfl) (fun v w2 hv hl2 => ?_)
      obtain ⟨rfl, rfl⟩ := hv
      rw [zSk_id hp]
      have bad : ¬ (b (zSk b n p) = x ∧ m = 1) → G 29 [(0, .inr (.inr 0)), (1, .inl x), (2, .inl m)] [] (wTp b n (zSk b n p) 0) := by
        intro hbad
        refine hG.1 [] 80 _ _ _ _ ?_
        refine hG.2.1 (c_Tp_faultAt (by omega)) yv_Tp_faultAt lk_Tp_59 (by decide +kernel) rfl rfl [0, 1] (by decide +kernel) rfl rfl rfl (Nat.le_of_ble_eq_true rfl) (fun v w2 hv hl2 => ?_)
        obtain ⟨rfl, rfl⟩ := hv
        refine hG.1 [] 80 _ _ _ _ ?_
        exact ⟨Or.inl rfl, Or.inr (Or.inr (Or.inl ⟨rfl, hlt, hbad, rfl, rfl⟩))⟩
      refine hG.1 [29] 80 _ _ _ _ ?_
      refine ⟨by omega, fun h4 => ?_, fun h4 => ?_⟩
      · exact bad (fun z => h4 (by rw [hx1]; exact z.1))
      · refine ⟨by omega, fun h5 => ?_, fun h5 => ?_⟩
        · exact ⟨Or.inr rfl, Or.inr (Or.inr (Or.inr ⟨rfl, hlt, by rw [← hx1]; exact h4, by omega, rfl, rfl⟩))⟩
        · exact bad (fun z => by omega)
    · have hge : ¬ zSk b n p < n := fun hlt => by
        rw [zNx, if_pos hlt] at h3
        have := hb _ hlt; omega
      exact ⟨Or.inl rfl, Or.inr (Or.inl ⟨rfl, hge, rfl, rfl⟩)⟩
theorem c_Tp_readNumber {lo hi : Int} (hn : n ≤ 80) (hp : p ≤ n) (hb : ∀ j : Nat, j < n → 32 ≤ b j ∧ b j ≤ 126) (hf : -1000 ≤ fl ∧ fl ≤ 0) (hlo : 0 ≤ lo ∧ lo ≤ 1000) (hhi : 0 ≤ hi ∧ hi ≤ 1000) : zMet m_Tp_readNumber [.inr (.inr 0), .inl lo, .inl hi] (wTp b n p fl)
    (fun v w => v = some (.inl (zNum b n (zSk b n p))) ∧ w = wTp b n (zDg b n (zSk b n p)) (if zBadNum b n (zSk b n p) lo hi then zFl fl (zSk b n p) else fl)) := by
  have h0 := zSk_in (b := b) hp
  have hN := zNum_in b n (zSk b n p)
  have hD := zDg_in (b := b) h0.2
  refine zMet.of (own := RX5) rfl (by decide +kernel) tk_Tp_readNumber fok_Tp cok_Tp (Nat.le_of_ble_eq_true rfl) (fun G hG => ?_)
  refine hG.1 [] 80 _ _ _ _ ?_
  refine hG.2.1 (c_Tp_skipBlanks hn hp hb) yv_Tp_skipBlanks lk_Tp_48 (by decide +kernel) rfl rfl [0, 1] (by decide +kernel) rfl rfl rfl (Nat.le_of_ble_eq_true rfl) (fun v w2 hv hl2 => ?_)
  obtain ⟨rfl, rfl⟩ := hv
  refine hG.1 [12] 80 _ _ _ _ ?_
  have out : G 77 [(0, .inr (.inr 0)), (1, .inl lo), (2, .inl hi), (3, .inl (zSk b n p : Int)), (4, .inl (zNum b n (zSk b n p)))] [] (wTp b n (zDg b n (zSk b n p)) fl) := by
    have bad : zBadNum b n (zSk b n p) lo hi → G 97 [(0, .inr (.inr 0)), (1, .inl lo), (2, .inl hi), (3, .inl (zSk b n p : Int)), (4, .inl (zNum b n (zSk b n p)))] [] (wTp b n (zDg b n (zSk b n p)) fl) := by
      intro hbad
      refine hG.1 [] 80 _ _ _ _ ?_
      refine hG.2.1 (c_Tp_faultAt hf) yv_Tp_faultAt lk_Tp_59 (by decide +kernel) rfl rfl [0, 1] (by decide +kernel) rfl rfl rfl (Nat.le_of_ble_eq_true rfl) (fun v w2 hv hl2 => ?_)
      obtain ⟨rfl, rfl⟩ := hv
      refine hG.1 [] 80 _ _ _ _ ?_
      exact ⟨trivial, rfl, by rw [if_pos hbad]; rfl⟩
    refine hG.1 [97] 80 _ _ _ _ ?_
    refine ⟨by omega, fun h1 => ?_, fun h1 => ?_⟩
    · exact bad (Or.inl (by omega))
    · refine ⟨by omega, fun h2 => ?_, fun h2 => ?_⟩
      · exact bad (Or.inr (Or.inl h2))
      · refine ⟨by omega, fun h3 => ?_, fun h3 => ?_⟩
        · refine ⟨trivial, rfl, ?_⟩
          rw [if_neg]
          rintro (h | h | h) <;> omega
        · exact bad (Or.inr (Or.inr h3))
  have key : ∀ d q : Nat, q + d = n → ∀ acc : Int, 0 ≤ acc ∧ acc ≤ 1000 → zDg b n q = zDg b n (zSk b n p) → zNmS b (n - q) q acc = zNum b n (zSk b n p) → G 12 [(0, .inr (.inr 0)), (1, .inl lo), (2, .inl hi), (3, .inl (zSk b n p : Int)), (4, .inl acc)] [] (wTp b n q fl) := by
    intro d
    induction d with
    | zero =>
      intro q hq acc ha e1 e2
      have e3 : zDg b n q = q := zScan_stop (by omega)
      have e4 : zNmS b (n - q) q acc = acc := by rw [show n - q = 0 by omega]; rfl
      rw [e3] at e1; rw [e4] at e2
      refine hG.1 [77] 80 _ _ _ _ ?_
      refine ⟨by omega, fun h1 => ?_, fun h1 => absurd h1 (by omega)⟩
      rw [← e1, ← e2] at out
      exact out
    | succ d ih =>
      intro q hq acc ha e1 e2
      have hbq := hb q (by omega)
      refine hG.1 [77] 80 _ _ _ _ ?_
      refine ⟨by omega, fun h1 => absurd h1 (by omega), fun h1 => ?_⟩
      refine ⟨by omega, ?_⟩
      refine hG.2.2.1 (c_Tp_isFigure (x := b q) (by omega)) ys_Tp_isFigure (Or.inl lk_Tp_77) (by decide +kernel) rfl [] (by decide +kernel) rfl rfl rfl (Nat.le_of_ble_eq_true rfl) (fun v w2 hv hl2 => ?_)
      have e4 : zNmS b (n - q) q acc = (if 48 ≤ b q ∧ b q ≤ 57 then zNmS b (n - (q + 1)) (q + 1) (if 10 * acc + b q - 48 ≤ 1000 then 10 * acc + b q - 48 else 1000) else acc) := by
        rw [show n - q = (n - (q + 1)) + 1 by omega]; rfl
      obtain ⟨⟨hc, rfl⟩ | ⟨hc, rfl⟩, rfl⟩ := hv
      · have e3 : zDg b n q = zDg b n (q + 1) := zScan_step (by omega) (by simpa using hc)
        rw [if_pos hc] at e4
        refine hG.1 [77, 12] 80 _ _ _ _ ?_
        refine ⟨by omega, fun h2 => absurd h2 (by omega), fun h2 => ?_⟩
        refine ⟨by omega, ?_⟩
        refine hG.2.2.1 (c_Ja_min (x := 10 * acc + b q - 48) (y := 1000) (by omega) (by omega)) ys_Ja_min (Or.inl lk_Tp_87) (by decide +kernel) rfl [] (by decide +kernel) rfl rfl rfl (Nat.le_of_ble_eq_true rfl) (fun v w2 hv hl2 => ?_)
        obtain ⟨rfl, rfl⟩ := hv
        refine hG.1 [12] 80 _ _ _ _ ?_
        exact ih (q + 1) (by omega) _ (by split <;> omega) (by rw [← e3]; exact e1) (by rw [← e4]; exact e2)
      · have e3 : zDg b n q = q := zScan_stop (fun z => hc (by simpa using z.2))
        rw [if_neg hc] at e4
        rw [e3] at e1; rw [e4] at e2
        refine hG.1 [77] 80 _ _ _ _ ?_
        refine ⟨by omega, fun h2 => ?_, fun h2 => absurd rfl h2⟩
        rw [← e1, ← e2] at out
        exact out
  exact key (n - zSk b n p) (zSk b n p) (by omega) 0 (by omega) rfl rfl
end Tp
