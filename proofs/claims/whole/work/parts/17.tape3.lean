/-! THE TAPE of the class: guests -/
/-- a guest of a text: a fault, or kind, slip and the next place -/
def zGst (b : Int → Int) (n p : Nat) : Nat ⊕ (Int × (Int × Nat)) :=
  if zKind (zNx b n (zSk b n p)) < 0 then .inl (zSk b n p)
  else if zKind (zNx b n (zSk b n p)) ≠ 2 ∧ 48 ≤ zNx b n (zSk b n (zSk b n p + 1)) ∧ zNx b n (zSk b n (zSk b n p + 1)) ≤ 57 then
    (if zBadNum b n (zSk b n (zSk b n p + 1)) 0 20 then .inl (zSk b n (zSk b n p + 1)) else .inr (zKind (zNx b n (zSk b n p)), (zNum b n (zSk b n (zSk b n p + 1)), zDg b n (zSk b n (zSk b n p + 1)))))
  else .inr (zKind (zNx b n (zSk b n p)), (0, if zKind (zNx b n (zSk b n p)) ≠ 2 then zSk b n (zSk b n p + 1) else zSk b n p + 1))
def zGQ (r : Nat ⊕ (Int × (Int × Nat))) (ks ss : Int → Int) (m : Nat) (p' : Nat) (fl' : Int) (ks' ss' : Int → Int) (m' : Nat) : Prop := match r with
  | .inl f => fl' = -20 - (f : Int)
  | .inr q => fl' = 0 ∧ ks' = z_u ks m q.1 ∧ ss' = z_u ss m q.2.1 ∧ m' = m + 1 ∧ p' = q.2.2
def zTab (b : Int → Int) (n : Nat) : Nat → (Int → Int) → (Int → Int) → Nat → Nat → Nat ⊕ ((Int → Int) × ((Int → Int) × Nat))
  | 0, _, _, _, p => .inl p
  | d + 1, ks, ss, m, p => match zGst b n p with
    | .inl f => .inl f
    | .inr q => if ¬ zSk b n q.2.2 < n then .inr (z_u ks m q.1, (z_u ss m q.2.1, m + 1)) else if b (zSk b n q.2.2) = 59 ∧ d ≠ 0 then zTab b n d (z_u ks m q.1) (z_u ss m q.2.1) (m + 1) (zSk b n q.2.2 + 1) else .inl (zSk b n q.2.2)
def zTQ (r : Nat ⊕ ((Int → Int) × ((Int → Int) × Nat))) (fl' : Int) (ks' ss' : Int → Int) (m' : Nat) : Prop := match r with
  | .inl f => fl' = -20 - (f : Int)
  | .inr q => fl' = 0 ∧ ks' = q.1 ∧ ss' = q.2.1 ∧ m' = q.2.2
theorem zKind_in (x : Int) : -1 ≤ zKind x ∧ zKind x ≤ 3 := by
  unfold zKind; repeat' split
  all_goals omega
theorem zKind_lt {b : Int → Int} {n q : Nat} (h : ¬ zKind (zNx b n q) < 0) : q < n := by
  unfold zNx at h; split at h
  · assumption
  · exact absurd (by decide) h
def zGIn (n : Nat) (b : Int → Int) (r : Nat ⊕ (Int × (Int × Nat))) : Prop := match r with
  | .inl f => f ≤ n ∧ zSk b n f = f
  | .inr q => q.2.2 ≤ n ∧ (0 ≤ q.1 ∧ q.1 ≤ 3) ∧ (0 ≤ q.2.1 ∧ q.2.1 ≤ 20) ∧ (q.1 = 2 → q.2.1 = 0)
section Tp3
variable {b : Int → Int} {n p : Nat}
theorem zGst_in (hp : p ≤ n) : zGIn n b (zGst b n p) := by
  have h0 := zSk_in (b := b) hp
  have hk := zKind_in (zNx b n (zSk b n p))
  unfold zGst
  by_cases a1 : zKind (zNx b n (zSk b n p)) < 0
  · rw [if_pos a1]; exact ⟨h0.2, zSk_id hp⟩
  rw [if_neg a1]
  have hlt := zKind_lt a1
  have h1 := zSk_in (b := b) (show zSk b n p + 1 ≤ n by omega)
  have h2 := zDg_in (b := b) h1.2
  have hN := zNum_in b n (zSk b n (zSk b n p + 1))
  by_cases a2 : zKind (zNx b n (zSk b n p)) ≠ 2 ∧ 48 ≤ zNx b n (zSk b n (zSk b n p + 1)) ∧ zNx b n (zSk b n (zSk b n p + 1)) ≤ 57
  · rw [if_pos a2]
    by_cases a3 : zBadNum b n (zSk b n (zSk b n p + 1)) 0 20
    · rw [if_pos a3]; exact ⟨h1.2, zSk_id (by omega)⟩
    · rw [if_neg a3]
      have : ¬ (zNum b n (zSk b n (zSk b n p + 1)) < 0 ∨ 20 < zNum b n (zSk b n (zSk b n p + 1))) := fun z => a3 (Or.inr z)
      exact ⟨h2.2, by dsimp only; omega, by dsimp only; omega, fun z => absurd z a2.1⟩
  · rw [if_neg a2]
    refine ⟨?_, by dsimp only; omega, by dsimp only; omega, fun _ => rfl⟩
    dsimp only; split <;> omega
theorem c_Tp_readGuest {ks ss : Int → Int} {m : Nat} {who ties : Int} (hn : n ≤ 80) (hp : p ≤ n) (hb : ∀ j : Nat, j < n → 32 ≤ b j ∧ b j ≤ 126) (hm : m < 9) : zMet m_Tp_readGuest [.inr (.inr 0), .inr (.inr 2)] (wTpCo b n p 0 ks ss m who ties)
    (fun v wd => v = none ∧ ∃ (p' : Nat) (fl' : Int) (ks' ss' : Int → Int) (m' : Nat), wd = wTpCo b n p' fl' ks' ss' m' who ties ∧ p' ≤ n ∧ (-200 ≤ fl' ∧ fl' ≤ 0) ∧ zGQ (zGst b n p) ks ss m p' fl' ks' ss' m') := by
  have h0 := zSk_in (b := b) hp
  have hk := zKind_in (zNx b n (zSk b n p))
  refine zMet.of (own := RX5) rfl (by decide +kernel) tk_Tp_readGuest fok_Tp cok_Tp (Nat.le_of_ble_eq_true rfl) (fun G hG => ?_)
  refine hG.1 [] 80 _ _ _ _ ?_
  refine hG.2.1 (c_Tp_readKind (fl := 0) hn hp hb (by omega)) yv_Tp_readKind lk_Tp_70 (by decide +kernel) rfl rfl [0, 1] (by decide +kernel) rfl rfl rfl (Nat.le_of_ble_eq_true rfl) (fun v w2 hv hl2 => ?_)
  obtain ⟨rfl, rfl⟩ := hv
  have fin : ∀ (q : Nat) (sl : Int), q ≤ n → zGst b n p = .inr (zKind (zNx b n (zSk b n p)), (sl, q)) → G 37 [(0, .inr (.inr 0)), (1, .inr (.inr 2)), (2, .inl (zKind (zNx b n (zSk b n p)))), (3, .inl sl)] [] (wTpCo b n q 0 ks ss m who ties) := by
    intro q sl hq hz
    refine hG.1 [] 80 _ _ _ _ ?_
    refine ⟨by omega, fun h1 => absurd rfl h1, fun h1 => ?_⟩
    refine hG.2.1 (c_Co_seat (k := zKind (zNx b n (zSk b n p))) (x := sl) hm) yv_Co_seat lk_Tp_81 (by decide +kernel) rfl rfl [2, 3, 4] (by decide +kernel) rfl rfl rfl (Nat.le_of_ble_eq_true rfl) (fun v w2 hv hl2 => ?_)
    obtain ⟨rfl, rfl⟩ := hv
    refine hG.1 [] 80 _ _ _ _ ?_
    refine ⟨trivial, rfl, q, 0, _, _, _, rfl, hq, by omega, ?_⟩
    rw [hz]; exact ⟨rfl, rfl, rfl, rfl, rfl⟩
  by_cases a1 : zKind (zNx b n (zSk b n p)) < 0
  · rw [if_pos a1]
    have hz : zFl 0 (zSk b n p) = -20 - (zSk b n p : Int) := by rw [zFl, if_pos rfl]
    rw [hz]
    have hd : zGst b n p = .inl (zSk b n p) := by unfold zGst; rw [if_pos a1]
    refine hG.1 [] 80 _ _ _ _ ?_
    refine ⟨by omega, fun h1 => ?_, fun h1 => by omega⟩
    refine ⟨by omega, fun h1 => ?_, fun h1 => by omega⟩
    refine ⟨trivial, rfl, _, _, _, _, _, rfl, h0.2, by omega, ?_⟩
    rw [hd]; rfl
  · rw [if_neg a1]
    have hlt := zKind_lt a1
    have h1 := zSk_in (b := b) (show zSk b n p + 1 ≤ n by omega)
    have h2 := zDg_in (b := b) h1.2
    have hN := zNum_in b n (zSk b n (zSk b n p + 1))
    have hX := zNx_in hb (zSk b n (zSk b n p + 1))
    refine hG.1 [37] 80 _ _ _ _ ?_
    refine ⟨by omega, fun g1 => absurd rfl g1, fun g1 => ?_⟩
    refine ⟨by omega, fun g2 => ?_, fun g2 => ?_⟩
    · refine fin _ _ (by omega) ?_
      unfold zGst; rw [if_neg a1, if_neg (fun z => z.1 g2), if_neg (fun z => z g2)]
    · refine hG.2.1 (c_Tp_next (fl := 0) hn (show zSk b n p + 1 ≤ n by omega) hb) yv_Tp_next lk_Tp_74 (by decide +kernel) rfl rfl [0, 1] (by decide +kernel) rfl rfl rfl (Nat.le_of_ble_eq_true rfl) (fun v w2 hv hl2 => ?_)
      obtain ⟨rfl, rfl⟩ := hv
      refine hG.1 [] 80 _ _ _ _ ?_
      refine hG.2.2.1 (c_Tp_isFigure (x := zNx b n (zSk b n (zSk b n p + 1))) (by omega)) ys_Tp_isFigure (Or.inl lk_Tp_77) (by decide +kernel) rfl [] (by decide +kernel) rfl rfl rfl (Nat.le_of_ble_eq_true rfl) (fun v w2 hv hl2 => ?_)
      obtain ⟨⟨hc, rfl⟩ | ⟨hc, rfl⟩, rfl⟩ := hv
      · refine hG.1 [] 80 _ _ _ _ ?_
        refine ⟨by omega, fun g3 => absurd g3 (by omega), fun g3 => ?_⟩
        refine hG.2.1 (c_Tp_readNumber (fl := 0) (lo := 0) (hi := 20) hn h1.2 hb (by omega) (by omega) (by omega)) yv_Tp_readNumber lk_Tp_51 (by decide +kernel) rfl rfl [0, 1] (by decide +kernel) rfl rfl rfl (Nat.le_of_ble_eq_true rfl) (fun v w2 hv hl2 => ?_)
        obtain ⟨rfl, rfl⟩ := hv
        rw [zSk_id (by omega)]
        by_cases a3 : zBadNum b n (zSk b n (zSk b n p + 1)) 0 20
        · rw [if_pos a3]
          have hz : zFl 0 (zSk b n (zSk b n p + 1)) = -20 - (zSk b n (zSk b n p + 1) : Int) := by rw [zFl, if_pos rfl]
          rw [hz]
          have hd : zGst b n p = .inl (zSk b n (zSk b n p + 1)) := by unfold zGst; rw [if_neg a1, if_pos ⟨g2, hc⟩, if_pos a3]
          refine hG.1 [] 80 _ _ _ _ ?_
          refine ⟨by omega, fun g4 => ?_, fun g4 => by omega⟩
          refine ⟨trivial, rfl, _, _, _, _, _, rfl, h2.2, by omega, ?_⟩
          rw [hd]; rfl
        · rw [if_neg a3]
          refine hG.1 [37] 80 _ _ _ _ ?_
          refine fin _ _ h2.2 ?_
          unfold zGst; rw [if_neg a1, if_pos ⟨g2, hc⟩, if_neg a3]
      · refine hG.1 [37] 80 _ _ _ _ ?_
        refine ⟨by omega, fun g3 => ?_, fun g3 => absurd rfl g3⟩
        refine fin _ _ h1.2 ?_
        unfold zGst; rw [if_neg a1, if_neg (fun z => hc z.2), if_pos g2]
theorem c_Tp_takeGuests {ks ss : Int → Int} {m : Nat} {who ties fl : Int} (hn : n ≤ 80) (hb : ∀ j : Nat, j < n → 32 ≤ b j ∧ b j ≤ 126) : zMet m_Tp_takeGuests [.inr (.inr 0), .inr (.inr 2)] (wTpCo b n p fl ks ss m who ties)
    (fun v wd => ∃ (p' : Nat) (fl' : Int) (ks' ss' : Int → Int) (m' : Nat), v = some (.inl fl') ∧ wd = wTpCo b 0 p' fl' ks' ss' m' who ties ∧ (-200 ≤ fl' ∧ fl' ≤ 0) ∧ zTQ (zTab b n 9 ks ss 0 0) fl' ks' ss' m') := by
  refine zMet.of (own := RX5) rfl (by decide +kernel) tk_Tp_takeGuests fok_Tp cok_Tp (Nat.le_of_ble_eq_true rfl) (fun G hG => ?_)
  refine hG.1 [] 80 _ _ _ _ ?_
  refine hG.2.1 (c_Co_clear ) yv_Co_clear lk_Tp_41 (by decide +kernel) rfl rfl [2, 3, 4] (by decide +kernel) rfl rfl rfl (Nat.le_of_ble_eq_true rfl) (fun v w2 hv hl2 => ?_)
  obtain ⟨rfl, rfl⟩ := hv
  refine hG.1 [] 80 _ _ _ _ ?_
  refine hG.2.1 (c_Tp_begin ) yv_Tp_begin lk_Tp_30 (by decide +kernel) rfl rfl [0, 1] (by decide +kernel) rfl rfl rfl (Nat.le_of_ble_eq_true rfl) (fun v w2 hv hl2 => ?_)
  obtain ⟨rfl, rfl⟩ := hv
  refine hG.1 [12] 80 _ _ _ _ ?_
  have key : ∀ d k : Nat, k + d = 10 → ∀ (q : Nat) (k1 s1 : Int → Int) (m1 : Nat), m1 + 1 = k → 1 ≤ d → q ≤ n → zTab b n d k1 s1 m1 q = zTab b n 9 ks ss 0 0 → G 12 [(0, .inr (.inr 0)), (1, .inr (.inr 2)), (2, .inl 1), (3, .inl (k : Int))] [] (wTpCo b n q 0 k1 s1 m1 who ties) := by
    intro d
    induction d with
    | zero => intro k hk q k1 s1 m1 h1 h2; omega
    | succ d ih =>
      intro k hk q k1 s1 m1 h1 _ hq he
      have he' : (match zGst b n q with
        | .inl f => .inl f
        | .inr r => if ¬ zSk b n r.2.2 < n then .inr (z_u k1 m1 r.1, (z_u s1 m1 r.2.1, m1 + 1)) else if b (zSk b n r.2.2) = 59 ∧ d ≠ 0 then zTab b n d (z_u k1 m1 r.1) (z_u s1 m1 r.2.1) (m1 + 1) (zSk b n r.2.2 + 1) else .inl (zSk b n r.2.2)) = zTab b n 9 ks ss 0 0 := he
      have hdi := zGst_in (b := b) hq
      refine hG.1 [] 80 _ _ _ _ ?_
      refine ⟨by omega, fun h3 => absurd h3 (by omega), fun h3 => ?_⟩
      refine ⟨by omega, fun h4 => absurd h4 (by omega), fun h4 => ?_⟩
      refine hG.2.1 (c_Tp_readGuest hn hq hb (show m1 < 9 by omega)) yv_Tp_readGuest lk_Tp_44 (by decide +kernel) rfl rfl [0, 1, 2, 3, 4] (by decide +kernel) rfl rfl rfl (Nat.le_of_ble_eq_true rfl) (fun v w2 hv hl2 => ?_)
      obtain ⟨rfl, p', fl', k', s', m', rfl, hp', hfl', hQ⟩ := hv
      have rest : ∀ m0 : Int, (m0 = 1 ∧ (k : Int) < 9) ∨ (m0 = 0 ∧ 9 ≤ (k : Int)) → G 41 [(0, .inr (.inr 0)), (1, .inr (.inr 2)), (2, .inl 1), (3, .inl (k : Int))] [.inl m0, .inl 59, .inr (.inr 0)] (wTpCo b n p' fl' k' s' m' who ties) := by
        intro m0 hm
        refine hG.2.1 (c_Tp_goesOn (x := 59) (m := m0) hn hp' hb (by omega) (by omega) (by omega)) yv_Tp_goesOn lk_Tp_37 (by decide +kernel) rfl rfl [0, 1] (by decide +kernel) rfl rfl rfl (Nat.le_of_ble_eq_true rfl) (fun v w2 hv hl2 => ?_)
        cases hz : zGst b n q with
        | inl f =>
          rw [hz] at hQ he' hdi
          have hQ : fl' = -20 - (f : Int) := hQ
          rcases hv with ⟨g1, rfl, rfl⟩ | ⟨g1, _⟩ | ⟨g1, _⟩ | ⟨g1, _⟩
          · refine hG.1 [] 80 _ _ _ _ ?_
            refine ⟨by omega, fun h5 => ?_, fun h5 => ?_⟩
            · refine ⟨trivial, p', fl', k', s', m', rfl, rfl, hfl', ?_⟩
              rw [← he']; exact hQ
            · refine ⟨by omega, fun h6 => ?_, fun h6 => absurd rfl h6⟩
              refine ⟨trivial, p', fl', k', s', m', rfl, rfl, hfl', ?_⟩
              rw [← he']; exact hQ
          all_goals omega
        | inr r =>
          rw [hz] at hQ he' hdi
          obtain ⟨rfl, rfl, rfl, rfl, rfl⟩ : fl' = 0 ∧ k' = z_u k1 m1 r.1 ∧ s' = z_u s1 m1 r.2.1 ∧ m' = m1 + 1 ∧ p' = r.2.2 := hQ
          dsimp only at he'
          rcases hv with ⟨g1, _⟩ | ⟨_, g1, rfl, rfl⟩ | ⟨_, g1, g2, rfl, rfl⟩ | ⟨_, g1, g2, g3, rfl, rfl⟩
          · exact absurd rfl g1
          · rw [if_pos g1] at he'
            refine hG.1 [] 80 _ _ _ _ ?_
            refine ⟨by omega, fun h5 => ?_, fun h5 => ?_⟩
            · refine ⟨trivial, _, _, _, _, _, rfl, rfl, hfl', ?_⟩
              rw [← he']; exact ⟨rfl, rfl, rfl, rfl⟩
            · refine ⟨by omega, fun h6 => ?_, fun h6 => absurd rfl h6⟩
              refine ⟨trivial, _, _, _, _, _, rfl, rfl, hfl', ?_⟩
              rw [← he']; exact ⟨rfl, rfl, rfl, rfl⟩
          · have hk2 := zSk_in (b := b) hp'
            rw [if_neg (by omega), if_neg (by omega)] at he'
            refine hG.1 [] 80 _ _ _ _ ?_
            refine ⟨by omega, fun h5 => ?_, fun h5 => ?_⟩
            · refine ⟨trivial, _, _, _, _, _, rfl, rfl, by omega, ?_⟩
              rw [← he']; rfl
            · refine ⟨by omega, fun h6 => ?_, fun h6 => absurd rfl h6⟩
              refine ⟨trivial, _, _, _, _, _, rfl, rfl, by omega, ?_⟩
              rw [← he']; rfl
          · rw [if_neg (by omega), if_pos (by omega)] at he'
            refine hG.1 [12] 80 _ _ _ _ ?_
            exact ih (k + 1) (by omega) _ _ _ _ (by omega) (by omega) (by omega) he'
      refine hG.1 [41] 80 _ _ _ _ ?_
      refine ⟨by omega, fun h5 => ?_, fun h5 => ?_⟩
      · exact rest 0 (by omega)
      · exact rest 1 (by omega)
  exact key 9 1 rfl 0 _ _ 0 (by omega) (by omega) (by omega) rfl
end Tp3
