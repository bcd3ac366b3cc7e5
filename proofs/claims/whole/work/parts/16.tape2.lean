/-! THE TAPE of the class: suppers and guests -/
def zDish (b : Int → Int) (n : Nat) (w : Int → Int) (p : Nat) : Nat ⊕ ((Int → Int) × Nat) :=
  if zBadNum b n (zSk b n p) 0 20 then .inl (zSk b n p)
  else if 0 < w (zNum b n (zSk b n p)) then .inl (zSk b n p)
  else if ¬ zNx b n (zSk b n (zDg b n (zSk b n p))) = 120 then .inl (zSk b n (zDg b n (zSk b n p)))
  else if zBadNum b n (zSk b n (zSk b n (zDg b n (zSk b n p)) + 1)) 1 99 then .inl (zSk b n (zSk b n (zDg b n (zSk b n p)) + 1))
  else .inr (z_u w (zNum b n (zSk b n p)) (zNum b n (zSk b n (zSk b n (zDg b n (zSk b n p)) + 1))), zDg b n (zSk b n (zSk b n (zDg b n (zSk b n p)) + 1)))
def zDQ (r : Nat ⊕ ((Int → Int) × Nat)) (p' : Nat) (fl' : Int) (w' : Int → Int) : Prop := match r with
  | .inl f => fl' = -20 - (f : Int)
  | .inr q => fl' = 0 ∧ w' = q.1 ∧ p' = q.2
def zMeal (b : Int → Int) (n : Nat) : Nat → (Int → Int) → Nat → Nat ⊕ (Int → Int)
  | 0, _, p => .inl p
  | d + 1, w, p => match zDish b n w p with
    | .inl f => .inl f
    | .inr q => if ¬ zSk b n q.2 < n then .inr q.1 else if b (zSk b n q.2) = 44 ∧ d ≠ 0 then zMeal b n d q.1 (zSk b n q.2 + 1) else .inl (zSk b n q.2)
def zMQ (r : Nat ⊕ (Int → Int)) (fl' : Int) (w' : Int → Int) : Prop := match r with
  | .inl f => fl' = -20 - (f : Int)
  | .inr q => fl' = 0 ∧ w' = q
theorem zNx_lt {b : Int → Int} {n q : Nat} {x : Int} (h : zNx b n q = x) (hx : 0 ≤ x) : q < n ∧ b q = x := by
  unfold zNx at h; split at h
  · exact ⟨by assumption, h⟩
  · omega
section Tp2
variable {b : Int → Int} {n p : Nat}
theorem zDish_in {w : Int → Int} (hp : p ≤ n) (hw : ∀ j : Nat, j < 21 → 0 ≤ w j ∧ w j ≤ 99) : match zDish b n w p with
    | .inl f => f ≤ n ∧ zSk b n f = f
    | .inr q => q.2 ≤ n ∧ ∀ j : Nat, j < 21 → 0 ≤ q.1 j ∧ q.1 j ≤ 99 := by
  have h0 := zSk_in (b := b) hp
  have h1 := zDg_in (b := b) h0.2
  have h2 := zSk_in (b := b) h1.2
  unfold zDish
  by_cases a1 : zBadNum b n (zSk b n p) 0 20
  · rw [if_pos a1]; exact ⟨h0.2, zSk_id hp⟩
  rw [if_neg a1]
  by_cases a2 : 0 < w (zNum b n (zSk b n p))
  · rw [if_pos a2]; exact ⟨h0.2, zSk_id hp⟩
  rw [if_neg a2]
  by_cases a3 : zNx b n (zSk b n (zDg b n (zSk b n p))) = 120
  · rw [if_neg (fun z => z a3)]
    have hx := (zNx_lt a3 (by omega)).1
    have h3 := zSk_in (b := b) (show zSk b n (zDg b n (zSk b n p)) + 1 ≤ n by omega)
    have h4 := zDg_in (b := b) h3.2
    by_cases a4 : zBadNum b n (zSk b n (zSk b n (zDg b n (zSk b n p)) + 1)) 1 99
    · rw [if_pos a4]; exact ⟨h3.2, zSk_id (by omega)⟩
    · rw [if_neg a4]
      refine ⟨h4.2, fun j hj => ?_⟩
      dsimp only
      unfold z_u
      split
      · have : ¬ (zNum b n (zSk b n (zSk b n (zDg b n (zSk b n p)) + 1)) < 1 ∨ 99 < zNum b n (zSk b n (zSk b n (zDg b n (zSk b n p)) + 1))) := fun z => a4 (Or.inr z)
        omega
      · exact hw j hj
  · rw [if_pos a3]; exact ⟨h2.2, zSk_id h1.2⟩
theorem c_Tp_readDish {w : Int → Int} (hn : n ≤ 80) (hp : p ≤ n) (hb : ∀ j : Nat, j < n → 32 ≤ b j ∧ b j ≤ 126) (hw : ∀ j : Nat, j < 21 → 0 ≤ w j ∧ w j ≤ 99) : zMet m_Tp_readDish [.inr (.inr 0), .inr (.inr 2)] (wTpSu b n p 0 w)
    (fun v wd => v = none ∧ ∃ (p' : Nat) (fl' : Int) (w' : Int → Int), wd = wTpSu b n p' fl' w' ∧ p' ≤ n ∧ (-200 ≤ fl' ∧ fl' ≤ 0) ∧ zDQ (zDish b n w p) p' fl' w') := by
  have h0 := zSk_in (b := b) hp
  have hD := zDg_in (b := b) h0.2
  have hN := zNum_in b n (zSk b n p)
  refine zMet.of (own := RX5) rfl (by decide +kernel) tk_Tp_readDish fok_Tp cok_Tp (Nat.le_of_ble_eq_true rfl) (fun G hG => ?_)
  -- from the sign on
  have tail : ∀ (q : Nat) (fl sum : Int), q ≤ n → (-200 ≤ fl ∧ fl ≤ 0) → (fl = 0 → 0 ≤ sum ∧ sum < 21) → (∀ (p' : Nat) (fl' : Int) (w' : Int → Int),
      (fl ≠ 0 → fl' = fl) → (fl = 0 → zNx b n (zSk b n q) ≠ 120 → fl' = -20 - (zSk b n q : Int)) → (fl = 0 → zNx b n (zSk b n q) = 120 → zBadNum b n (zSk b n (zSk b n q + 1)) 1 99 → fl' = -20 - (zSk b n (zSk b n q + 1) : Int)) →
      (fl = 0 → zNx b n (zSk b n q) = 120 → ¬ zBadNum b n (zSk b n (zSk b n q + 1)) 1 99 → fl' = 0 ∧ w' = z_u w sum (zNum b n (zSk b n (zSk b n q + 1))) ∧ p' = zDg b n (zSk b n (zSk b n q + 1))) → zDQ (zDish b n w p) p' fl' w') →
      G 37 [(0, .inr (.inr 0)), (1, .inr (.inr 2)), (2, .inl (zSk b n p : Int)), (3, .inl sum)] [] (wTpSu b n q fl w) := by
    intro q fl sum hq hfl hsum hQ
    have k0 := zSk_in (b := b) hq
    -- from the number on
    have tail2 : ∀ (q1 : Nat) (fl1 : Int), q1 ≤ n → (-200 ≤ fl1 ∧ fl1 ≤ 0) → (fl1 = 0 → fl = 0) → (∀ (p' : Nat) (fl' : Int) (w' : Int → Int), (fl1 ≠ 0 → fl' = fl1) → (fl1 = 0 → zBadNum b n (zSk b n q1) 1 99 → fl' = -20 - (zSk b n q1 : Int)) → (fl1 = 0 → ¬ zBadNum b n (zSk b n q1) 1 99 → fl' = 0 ∧ w' = z_u w sum (zNum b n (zSk b n q1)) ∧ p' = zDg b n (zSk b n q1)) → zDQ (zDish b n w p) p' fl' w') →
        G 43 [(0, .inr (.inr 0)), (1, .inr (.inr 2)), (2, .inl (zSk b n p : Int)), (3, .inl sum)] [] (wTpSu b n q1 fl1 w) := by
      intro q1 fl1 hq1 hfl1 hz1 hQ1
      have l0 := zSk_in (b := b) hq1
      have l1 := zDg_in (b := b) l0.2
      have l2 := zNum_in b n (zSk b n q1)
      refine hG.1 [] 80 _ _ _ _ ?_
      refine hG.2.1 (c_Tp_readNumber (fl := fl1) (lo := 1) (hi := 99) hn hq1 hb (by omega) (by omega) (by omega)) yv_Tp_readNumber lk_Tp_51 (by decide +kernel) rfl rfl [0, 1] (by decide +kernel) rfl rfl rfl (Nat.le_of_ble_eq_true rfl) (fun v w2 hv hl2 => ?_)
      obtain ⟨rfl, rfl⟩ := hv
      by_cases hbad : zBadNum b n (zSk b n q1) 1 99
      · rw [if_pos hbad]
        have hz : zFl fl1 (zSk b n q1) ≠ 0 ∧ (-200 ≤ zFl fl1 (zSk b n q1) ∧ zFl fl1 (zSk b n q1) ≤ 0) := by unfold zFl; split <;> omega
        refine hG.1 [] 80 _ _ _ _ ?_
        refine ⟨by omega, fun h1 => ?_, fun h1 => absurd h1 hz.1⟩
        refine ⟨trivial, rfl, _, _, _, rfl, l1.2, hz.2, hQ1 _ _ _ ?_ ?_ ?_⟩
        · intro h; rw [zFl, if_neg h]
        · intro h _; rw [zFl, if_pos h]
        · intro _ h; exact absurd hbad h
      · rw [if_neg hbad]
        refine hG.1 [] 80 _ _ _ _ ?_
        refine ⟨by omega, fun h1 => ?_, fun h1 => ?_⟩
        · refine ⟨trivial, rfl, _, _, _, rfl, l1.2, by omega, hQ1 _ _ _ ?_ ?_ ?_⟩
          · intro _; rfl
          · intro h _; exact absurd h h1
          · intro h _; exact absurd h h1
        · refine hG.2.1 (c_Su_putWeight (x := sum) (v0 := zNum b n (zSk b n q1)) (hsum (hz1 h1))) yv_Su_putWeight lk_Tp_66 (by decide +kernel) rfl rfl [2, 3] (by decide +kernel) rfl rfl rfl (Nat.le_of_ble_eq_true rfl) (fun v w2 hv hl2 => ?_)
          obtain ⟨rfl, rfl⟩ := hv
          refine hG.1 [] 80 _ _ _ _ ?_
          refine ⟨trivial, rfl, _, _, _, rfl, l1.2, by omega, hQ1 _ _ _ ?_ ?_ ?_⟩
          · intro h; exact absurd h1 h
          · intro _ h; exact absurd h hbad
          · intro _ _; exact ⟨h1, rfl, rfl⟩
    refine hG.1 [] 80 _ _ _ _ ?_
    refine hG.2.1 (c_Tp_readSign (x := 120) (fl := fl) hn hq hb (by omega) (by omega)) yv_Tp_readSign lk_Tp_63 (by decide +kernel) rfl rfl [0, 1] (by decide +kernel) rfl rfl rfl (Nat.le_of_ble_eq_true rfl) (fun v w2 hv hl2 => ?_)
    obtain ⟨rfl, rfl⟩ := hv
    by_cases hx : zNx b n (zSk b n q) = 120
    · rw [if_pos hx]
      have hlt := (zNx_lt hx (by omega)).1
      refine tail2 (zSk b n q + 1) fl (by omega) hfl (fun h => h) (fun p' fl' w' g1 g2 g3 => hQ p' fl' w' g1 ?_ ?_ ?_)
      · intro _ h; exact absurd hx h
      · intro h _ h2; exact g2 h h2
      · intro h _ h2; exact g3 h h2
    · rw [if_neg hx]
      have hz : zFl fl (zSk b n q) ≠ 0 ∧ (-200 ≤ zFl fl (zSk b n q) ∧ zFl fl (zSk b n q) ≤ 0) := by unfold zFl; split <;> omega
      refine tail2 (zSk b n q) (zFl fl (zSk b n q)) k0.2 hz.2 (fun h => absurd h hz.1) (fun p' fl' w' g1 g2 g3 => hQ p' fl' w' ?_ ?_ ?_ ?_)
      · intro h; rw [g1 hz.1, zFl, if_neg h]
      · intro h _; rw [g1 hz.1, zFl, if_pos h]
      · intro _ h; exact absurd h hx
      · intro _ h; exact absurd h hx
  refine hG.1 [] 80 _ _ _ _ ?_
  refine hG.2.1 (c_Tp_skipBlanks hn hp hb) yv_Tp_skipBlanks lk_Tp_48 (by decide +kernel) rfl rfl [0, 1] (by decide +kernel) rfl rfl rfl (Nat.le_of_ble_eq_true rfl) (fun v w2 hv hl2 => ?_)
  obtain ⟨rfl, rfl⟩ := hv
  refine hG.1 [] 80 _ _ _ _ ?_
  refine hG.2.1 (c_Tp_readNumber (fl := 0) (lo := 0) (hi := 20) hn h0.2 hb (by omega) (by omega) (by omega)) yv_Tp_readNumber lk_Tp_51 (by decide +kernel) rfl rfl [0, 1] (by decide +kernel) rfl rfl rfl (Nat.le_of_ble_eq_true rfl) (fun v w2 hv hl2 => ?_)
  obtain ⟨rfl, rfl⟩ := hv
  rw [zSk_id hp]
  by_cases hbad : zBadNum b n (zSk b n p) 0 20
  · rw [if_pos hbad]
    have hz : zFl 0 (zSk b n p) = -20 - (zSk b n p : Int) := by rw [zFl, if_pos rfl]
    rw [hz]
    have hd : zDish b n w p = .inl (zSk b n p) := by unfold zDish; rw [if_pos hbad]
    refine hG.1 [37] 80 _ _ _ _ ?_
    refine ⟨by omega, fun h1 => ?_, fun h1 => by omega⟩
    refine tail _ _ _ hD.2 (by omega) (fun h => by omega) (fun p' fl' w' g1 _ _ _ => ?_)
    rw [hd]; exact g1 h1
  · rw [if_neg hbad]
    have hin : ¬ (zNum b n (zSk b n p) < 0 ∨ 20 < zNum b n (zSk b n p)) := fun z => hbad (Or.inr z)
    refine hG.1 [37] 80 _ _ _ _ ?_
    refine ⟨by omega, fun h1 => absurd rfl h1, fun h1 => ?_⟩
    refine hG.2.1 (c_Su_weightOf (x := zNum b n (zSk b n p)) (by omega)) yv_Su_weightOf lk_Tp_55 (by decide +kernel) rfl rfl [2, 3] (by decide +kernel) rfl rfl rfl (Nat.le_of_ble_eq_true rfl) (fun v w2 hv hl2 => ?_)
    obtain ⟨rfl, rfl⟩ := hv
    have hwv : 0 ≤ w (zNum b n (zSk b n p)) ∧ w (zNum b n (zSk b n p)) ≤ 99 := by
      obtain ⟨k, hk⟩ := z_nat hN.1
      rw [hk]; exact hw k (by omega)
    refine hG.1 [37] 80 _ _ _ _ ?_
    refine ⟨by omega, fun h2 => ?_, fun h2 => ?_⟩
    · refine tail _ _ _ hD.2 (by omega) (fun _ => by omega) (fun p' fl' w' _ g2 g3 g4 => ?_)
      by_cases hx : zNx b n (zSk b n (zDg b n (zSk b n p))) = 120
      · by_cases hb2 : zBadNum b n (zSk b n (zSk b n (zDg b n (zSk b n p)) + 1)) 1 99
        · have hd : zDish b n w p = .inl (zSk b n (zSk b n (zDg b n (zSk b n p)) + 1)) := by unfold zDish; rw [if_neg hbad, if_neg (by omega), if_neg (by omega), if_pos hb2]
          rw [hd]; exact g3 rfl hx hb2
        · have hd : zDish b n w p = .inr (z_u w (zNum b n (zSk b n p)) (zNum b n (zSk b n (zSk b n (zDg b n (zSk b n p)) + 1))), zDg b n (zSk b n (zSk b n (zDg b n (zSk b n p)) + 1))) := by unfold zDish; rw [if_neg hbad, if_neg (by omega), if_neg (by omega), if_neg hb2]
          rw [hd]; exact g4 rfl hx hb2
      · have hd : zDish b n w p = .inl (zSk b n (zDg b n (zSk b n p))) := by unfold zDish; rw [if_neg hbad, if_neg (by omega), if_pos hx]
        rw [hd]; exact g2 rfl hx
    · refine hG.2.1 (c_Tp_faultAt (by omega)) yv_Tp_faultAt lk_Tp_59 (by decide +kernel) rfl rfl [0, 1] (by decide +kernel) rfl rfl rfl (Nat.le_of_ble_eq_true rfl) (fun v w2 hv hl2 => ?_)
      obtain ⟨rfl, rfl⟩ := hv
      have hz : zFl 0 (zSk b n p) = -20 - (zSk b n p : Int) := by rw [zFl, if_pos rfl]
      rw [hz]
      have hd : zDish b n w p = .inl (zSk b n p) := by unfold zDish; rw [if_neg hbad, if_pos h2]
      refine tail _ _ _ hD.2 (by omega) (fun h => by omega) (fun p' fl' w' g1 _ _ _ => ?_)
      rw [hd]; exact g1 (by omega)
theorem c_Tp_takeSupper {w : Int → Int} {fl : Int} (hn : n ≤ 80) (hb : ∀ j : Nat, j < n → 32 ≤ b j ∧ b j ≤ 126) : zMet m_Tp_takeSupper [.inr (.inr 0), .inr (.inr 2)] (wTpSu b n p fl w)
    (fun v wd => ∃ (p' : Nat) (fl' : Int) (w' : Int → Int), v = some (.inl fl') ∧ wd = wTpSu b 0 p' fl' w' ∧ (-200 ≤ fl' ∧ fl' ≤ 0) ∧ zMQ (zMeal b n 8 (zFill w 21) 0) fl' w') := by
  refine zMet.of (own := RX5) rfl (by decide +kernel) tk_Tp_takeSupper fok_Tp cok_Tp (Nat.le_of_ble_eq_true rfl) (fun G hG => ?_)
  refine hG.1 [] 80 _ _ _ _ ?_
  refine hG.2.1 (c_Su_clear ) yv_Su_clear lk_Tp_25 (by decide +kernel) rfl rfl [2, 3] (by decide +kernel) rfl rfl rfl (Nat.le_of_ble_eq_true rfl) (fun v w2 hv hl2 => ?_)
  obtain ⟨rfl, rfl⟩ := hv
  refine hG.1 [] 80 _ _ _ _ ?_
  refine hG.2.1 (c_Tp_begin ) yv_Tp_begin lk_Tp_30 (by decide +kernel) rfl rfl [0, 1] (by decide +kernel) rfl rfl rfl (Nat.le_of_ble_eq_true rfl) (fun v w2 hv hl2 => ?_)
  obtain ⟨rfl, rfl⟩ := hv
  refine hG.1 [12] 80 _ _ _ _ ?_
  have hw0 : ∀ j : Nat, j < 21 → 0 ≤ zFill w 21 j ∧ zFill w 21 j ≤ 99 := fun j hj => by unfold zFill; rw [if_pos (by omega)]; omega
  have out : ∀ (q : Nat) (fl' k m : Int) (w' : Int → Int), q ≤ n → (-200 ≤ fl' ∧ fl' ≤ 0) → zMQ (zMeal b n 8 (zFill w 21) 0) fl' w' → G 51 [(0, .inr (.inr 0)), (1, .inr (.inr 2)), (2, .inl m), (3, .inl k)] [] (wTpSu b n q fl' w') := by
    intro q fl' k m w' hq hfl h
    refine hG.1 [] 80 _ _ _ _ ?_
    exact ⟨trivial, q, fl', w', rfl, rfl, hfl, h⟩
  have key : ∀ d k : Nat, k + d = 9 → ∀ (q : Nat) (w1 : Int → Int), 1 ≤ k → 1 ≤ d → q ≤ n → (∀ j : Nat, j < 21 → 0 ≤ w1 j ∧ w1 j ≤ 99) → zMeal b n d w1 q = zMeal b n 8 (zFill w 21) 0 → G 12 [(0, .inr (.inr 0)), (1, .inr (.inr 2)), (2, .inl 1), (3, .inl (k : Int))] [] (wTpSu b n q 0 w1) := by
    intro d
    induction d with
    | zero => intro k hk q w1 h1 h2; omega
    | succ d ih =>
      intro k hk q w1 h1 _ hq hw1 he
      have he' : (match zDish b n w1 q with
        | .inl f => .inl f
        | .inr r => if ¬ zSk b n r.2 < n then .inr r.1 else if b (zSk b n r.2) = 44 ∧ d ≠ 0 then zMeal b n d r.1 (zSk b n r.2 + 1) else .inl (zSk b n r.2)) = zMeal b n 8 (zFill w 21) 0 := he
      have hdi := zDish_in (b := b) hq hw1
      refine hG.1 [51] 80 _ _ _ _ ?_
      refine ⟨by omega, fun h3 => absurd h3 (by omega), fun h3 => ?_⟩
      refine ⟨by omega, fun h4 => absurd h4 (by omega), fun h4 => ?_⟩
      refine hG.2.1 (c_Tp_readDish hn hq hb hw1) yv_Tp_readDish lk_Tp_33 (by decide +kernel) rfl rfl [0, 1, 2, 3] (by decide +kernel) rfl rfl rfl (Nat.le_of_ble_eq_true rfl) (fun v w2 hv hl2 => ?_)
      obtain ⟨rfl, p', fl', w', rfl, hp', hfl', hQ⟩ := hv
      -- the flag
      have rest : ∀ m : Int, (m = 1 ∧ (k : Int) < 8) ∨ (m = 0 ∧ 8 ≤ (k : Int)) → G 41 [(0, .inr (.inr 0)), (1, .inr (.inr 2)), (2, .inl 1), (3, .inl (k : Int))] [.inl m, .inl 44, .inr (.inr 0)] (wTpSu b n p' fl' w') := by
        intro m hm
        refine hG.2.1 (c_Tp_goesOn (x := 44) (m := m) hn hp' hb (by omega) (by omega) (by omega)) yv_Tp_goesOn lk_Tp_37 (by decide +kernel) rfl rfl [0, 1] (by decide +kernel) rfl rfl rfl (Nat.le_of_ble_eq_true rfl) (fun v w2 hv hl2 => ?_)
        cases hz : zDish b n w1 q with
        | inl f =>
          rw [hz] at hQ he' hdi
          have hQ : fl' = -20 - (f : Int) := hQ
          rcases hv with ⟨g1, rfl, rfl⟩ | ⟨g1, _⟩ | ⟨g1, _⟩ | ⟨g1, _⟩
          · refine hG.1 [] 80 _ _ _ _ ?_
            refine ⟨by omega, fun h5 => ?_, fun h5 => ?_⟩
            · refine ⟨trivial, p', fl', w', rfl, rfl, hfl', ?_⟩
              rw [← he']; exact hQ
            · refine ⟨by omega, fun h6 => ?_, fun h6 => absurd rfl h6⟩
              refine ⟨trivial, p', fl', w', rfl, rfl, hfl', ?_⟩
              rw [← he']; exact hQ
          all_goals omega
        | inr r =>
          rw [hz] at hQ he' hdi
          obtain ⟨rfl, rfl, rfl⟩ : fl' = 0 ∧ w' = r.1 ∧ p' = r.2 := hQ
          dsimp only at he' hdi
          rcases hv with ⟨g1, _⟩ | ⟨_, g1, rfl, rfl⟩ | ⟨_, g1, g2, rfl, rfl⟩ | ⟨_, g1, g2, g3, rfl, rfl⟩
          · exact absurd rfl g1
          · rw [if_pos g1] at he'
            refine hG.1 [] 80 _ _ _ _ ?_
            refine ⟨by omega, fun h5 => ?_, fun h5 => ?_⟩
            · refine ⟨trivial, _, _, _, rfl, rfl, hfl', ?_⟩
              rw [← he']; exact ⟨rfl, rfl⟩
            · refine ⟨by omega, fun h6 => ?_, fun h6 => absurd rfl h6⟩
              refine ⟨trivial, _, _, _, rfl, rfl, hfl', ?_⟩
              rw [← he']; exact ⟨rfl, rfl⟩
          · have hk2 := zSk_in (b := b) hp'
            rw [if_neg (by omega), if_neg (by omega)] at he'
            refine hG.1 [] 80 _ _ _ _ ?_
            refine ⟨by omega, fun h5 => ?_, fun h5 => ?_⟩
            · refine ⟨trivial, _, _, _, rfl, rfl, by omega, ?_⟩
              rw [← he']; rfl
            · refine ⟨by omega, fun h6 => ?_, fun h6 => absurd rfl h6⟩
              refine ⟨trivial, _, _, _, rfl, rfl, by omega, ?_⟩
              rw [← he']; rfl
          · rw [if_neg (by omega), if_pos (by omega)] at he'
            refine hG.1 [12] 80 _ _ _ _ ?_
            exact ih (k + 1) (by omega) _ _ (by omega) (by omega) (by omega) hdi.2 he'
      refine hG.1 [41] 80 _ _ _ _ ?_
      refine ⟨by omega, fun h5 => ?_, fun h5 => ?_⟩
      · exact rest 0 (by omega)
      · exact rest 1 (by omega)
  exact key 8 1 rfl 0 _ (by omega) (by omega) (by omega) hw0 rfl
end Tp2
