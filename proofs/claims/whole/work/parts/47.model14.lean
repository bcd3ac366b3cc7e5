/-! THE REFERENCE: leagues, shunning -/
def zHf (f : Nat → Int) : Nat → Nat × Int
  | 0 => (0, -1)
  | k + 1 => if (zHf f k).2 < f k then (k, f k) else zHf f k
theorem zHf_in {f : Nat → Int} {M : Int} (hM : 0 ≤ M) (hf : ∀ k, 0 ≤ f k ∧ f k ≤ M) : ∀ k, ((zHf f k).1 = 0 ∨ (zHf f k).1 < k) ∧ (-1 ≤ (zHf f k).2 ∧ (zHf f k).2 ≤ M)
  | 0 => ⟨Or.inl rfl, by show (-1 : Int) ≤ -1 ∧ (-1 : Int) ≤ M; omega⟩
  | k + 1 => by
    obtain ⟨h1, h2⟩ := zHf_in hM hf k
    have h3 := hf k
    unfold zHf
    split
    · exact ⟨Or.inr (Nat.lt_succ_self k), by dsimp only; omega⟩
    · exact ⟨by omega, h2⟩
theorem zHf_ge {f : Nat → Int} : ∀ k p, p < k → f p ≤ (zHf f k).2
  | 0, p, h => absurd h (Nat.not_lt_zero _)
  | k + 1, p, h => by
    have h1 := zHf_ge (f := f) k p
    unfold zHf
    by_cases e : p = k
    · subst e
      split
      · exact Int.le_refl _
      · omega
    · have := h1 (by omega)
      split
      · dsimp only; omega
      · exact this
theorem zHf_at {f : Nat → Int} (hf : ∀ k, 0 ≤ f k) : ∀ k, 0 < k → f (zHf f k).1 = (zHf f k).2
  | 0, h => absurd h (Nat.lt_irrefl 0)
  | 1, _ => by
    have e : zHf f 1 = (0, f 0) := by
      show (if (-1 : Int) < f 0 then (0, f 0) else _) = _
      rw [if_pos (by have := hf 0; omega)]
    rw [e]
  | k + 2, _ => by
    have h := zHf_at hf (k + 1) (by omega)
    have e : zHf f (k + 2) = if (zHf f (k + 1)).2 < f (k + 1) then (k + 1, f (k + 1)) else zHf f (k + 1) := rfl
    rw [e]
    split
    · rfl
    · exact h
theorem zHp_run {f : Nat → Int} {en : Int} : ∀ d p, ∃ q, q ≤ p + d ∧ zHp f en d p (zHf f p).1 (zHf f p).2 = zHf f q ∧ (q = p + d ∨ en ≤ (zHf f q).2)
  | 0, p => ⟨p, Nat.le_refl _, rfl, Or.inl rfl⟩
  | d + 1, p => by
    have e : zHp f en (d + 1) p (zHf f p).1 (zHf f p).2 = if (zHf f p).2 < en then (if (zHf f p).2 < f p then zHp f en d (p + 1) p (f p) else zHp f en d (p + 1) (zHf f p).1 (zHf f p).2) else ((zHf f p).1, (zHf f p).2) := rfl
    obtain ⟨q, h1, h2, h3⟩ := zHp_run (f := f) (en := en) d (p + 1)
    have e2 : zHf f (p + 1) = if (zHf f p).2 < f p then (p, f p) else zHf f p := rfl
    by_cases c : (zHf f p).2 < en
    · rw [if_pos c] at e
      refine ⟨q, by omega, ?_, by omega⟩
      rw [e, ← h2, e2]
      split
      · rfl
      · rfl
    · rw [if_neg c] at e
      exact ⟨p, by omega, e, Or.inr (by omega)⟩
theorem zHf_stay {f : Nat → Int} {p : Nat} (h : ∀ q, f q ≤ (zHf f p).2) : ∀ d, zHf f (p + d) = zHf f p
  | 0 => rfl
  | d + 1 => by
    have h1 := zHf_stay h d
    show (if (zHf f (p + d)).2 < f (p + d) then (p + d, f (p + d)) else zHf f (p + d)) = _
    have := h (p + d)
    rw [h1, if_neg (by omega)]
theorem zHp_full {f : Nat → Int} {en : Int} (hf : ∀ q, f q ≤ en) : zHp f en 441 0 0 (-1) = zHf f 441 := by
  obtain ⟨q, h1, h2, h3⟩ := zHp_run (f := f) (en := en) 441 0
  have h4 : zHp f en 441 0 0 (-1) = zHf f q := h2
  rw [h4]
  rcases h3 with h3 | h3
  · rw [h3, Nat.zero_add]
  · have := zHf_stay (f := f) (p := q) (fun x => by have := hf x; omega) (441 - q)
    rw [← this, show q + (441 - q) = 441 by omega]
theorem zHp_cmp {f : Nat → Int} {en : Int} (hf : ∀ q, 0 ≤ f q) (hen : 0 ≤ en) : (f (zHp f en 441 0 0 (-1)).1 < en ↔ (zHf f 441).2 < en) ∧ ((zHf f 441).2 < en → f (zHp f en 441 0 0 (-1)).1 = (zHf f 441).2) := by
  obtain ⟨q, h1, h2, h3⟩ := zHp_run (f := f) (en := en) 441 0
  have h4 : zHp f en 441 0 0 (-1) = zHf f q := h2
  rw [h4]
  have hq : 0 < q := by
    rcases Nat.eq_zero_or_pos q with h | h
    · subst h
      have e : (zHf f 0).2 = -1 := rfl
      omega
    · exact h
  have h5 := zHf_at hf q hq
  have h6 := zHf_ge (f := f) 441
  rcases h3 with h3 | h3
  · have e : q = 441 := by omega
    subst e
    rw [h5]
    exact ⟨Iff.rfl, fun _ => rfl⟩
  · have h7 : (zHf f q).1 < 441 := by
      have := zHf_in (f := fun k => if k < 442 then f k else 0) (M := 0)
      rcases Nat.lt_or_ge (zHf f q).1 441 with h | h
      · exact h
      · exfalso
        have key : ∀ k, k ≤ 441 → 0 < k → (zHf f k).1 < k := by
          intro k
          induction k with
          | zero => intro _ h0; omega
          | succ k ih =>
            intro hk _
            have e : zHf f (k + 1) = if (zHf f k).2 < f k then (k, f k) else zHf f k := rfl
            rw [e]
            split
            · exact Nat.lt_succ_self k
            · rcases Nat.eq_zero_or_pos k with h0 | h0
              · subst h0; exact Nat.lt_succ_self 0
              · have := ih (by omega) h0; omega
        have := key q (by omega) hq
        omega
    have h8 := h6 _ h7
    rw [h5] at h8 ⊢
    exact ⟨⟨fun z => by omega, fun z => by omega⟩, fun z => by omega⟩
theorem zSf_in {w ss : Int → Int} {n : Nat} {who ties : Int} {a b c : Nat} (hW : zOkW w) : ∀ k, ((zSf w ss n who ties a b c k).1 ≤ k) ∧ 0 ≤ (zSf w ss n who ties a b c k).2 ∧ (zSf w ss n who ties a b c k).2 ≤ 2520 * zWeiN w 21 + 1
  | 0 => by
    have := zWei21 hW
    show 0 ≤ 0 ∧ 0 ≤ 2520 * zWeiN w 21 + 1 ∧ 2520 * zWeiN w 21 + 1 ≤ _
    omega
  | k + 1 => by
    have ih := zSf_in (ss := ss) (n := n) (who := who) (ties := ties) (a := a) (b := b) (c := c) hW k
    unfold zSf
    split
    · have : 0 ≤ zFp w (z_u ss c k) n who ties a b c (zHp (zFp w (z_u ss c k) n who ties a b c) (zSf w ss n who ties a b c k).2 441 0 0 (-1)).1 ∧ zFp w (z_u ss c k) n who ties a b c (zHp (zFp w (z_u ss c k) n who ties a b c) (zSf w ss n who ties a b c k).2 441 0 0 (-1)).1 ≤ 2520 * zWeiN w 21 := zBu_in hW
      dsimp only
      omega
    · omega
theorem zSf_step {w ss : Int → Int} {n : Nat} {who ties : Int} {a b c : Nat} (hW : zOkW w) (k : Nat) : zSf w ss n who ties a b c (k + 1) = if (zHf (zFp w (z_u ss c k) n who ties a b c) 441).2 < (zSf w ss n who ties a b c k).2 then (k, (zHf (zFp w (z_u ss c k) n who ties a b c) 441).2) else zSf w ss n who ties a b c k := by
  have hs := zSf_in (ss := ss) (n := n) (who := who) (ties := ties) (a := a) (b := b) (c := c) hW k
  have hf : ∀ q, 0 ≤ zFp w (z_u ss c k) n who ties a b c q := fun q => (zBu_in (w := w) hW).1
  have hc := zHp_cmp (f := zFp w (z_u ss c k) n who ties a b c) (en := (zSf w ss n who ties a b c k).2) hf hs.2.1
  have e : zSf w ss n who ties a b c (k + 1) = if zFp w (z_u ss c k) n who ties a b c (zHp (zFp w (z_u ss c k) n who ties a b c) (zSf w ss n who ties a b c k).2 441 0 0 (-1)).1 < (zSf w ss n who ties a b c k).2 then (k, zFp w (z_u ss c k) n who ties a b c (zHp (zFp w (z_u ss c k) n who ties a b c) (zSf w ss n who ties a b c k).2 441 0 0 (-1)).1) else zSf w ss n who ties a b c k := rfl
  rw [e]
  by_cases q : (zHf (zFp w (z_u ss c k) n who ties a b c) 441).2 < (zSf w ss n who ties a b c k).2
  · rw [if_pos (hc.1.mpr q), if_pos q, hc.2 q]
  · rw [if_neg (fun z => q (hc.1.mp z)), if_neg q]
noncomputable def zSr (w ss : Int → Int) (n : Nat) (who ties : Int) (a b c : Nat) (k : Nat) : Nat × Int := if k = 0 then (0, -1) else zSf w ss n who ties a b c k
theorem zSr_step {w ss : Int → Int} {n : Nat} {who ties : Int} {a b c : Nat} (hW : zOkW w) (k : Nat) : zSr w ss n who ties a b c (k + 1) = if (zSr w ss n who ties a b c k).2 < 0 ∨ (zHf (zFp w (z_u ss c k) n who ties a b c) 441).2 < (zSr w ss n who ties a b c k).2 then (k, (zHf (zFp w (z_u ss c k) n who ties a b c) 441).2) else zSr w ss n who ties a b c k := by
  have hs := zSf_in (ss := ss) (n := n) (who := who) (ties := ties) (a := a) (b := b) (c := c) hW k
  have e1 : zSr w ss n who ties a b c (k + 1) = zSf w ss n who ties a b c (k + 1) := by unfold zSr; rw [if_neg (Nat.succ_ne_zero k)]
  rw [e1, zSf_step hW]
  by_cases h0 : k = 0
  · subst h0
    have e2 : zSr w ss n who ties a b c 0 = (0, -1) := by unfold zSr; rw [if_pos rfl]
    have e3 : (zSf w ss n who ties a b c 0).2 = 2520 * zWeiN w 21 + 1 := rfl
    have h5 := (zHf_in (f := zFp w (z_u ss c (0 : Nat)) n who ties a b c) (M := 2520 * zWeiN w 21) (by have := zWei21 hW; omega) (fun q => zBu_in (w := w) hW) 441).2.2
    rw [e2, e3, if_pos (by omega), if_pos (Or.inl (by decide))]
  · have e2 : zSr w ss n who ties a b c k = zSf w ss n who ties a b c k := by unfold zSr; rw [if_neg h0]
    rw [e2]
    by_cases q : (zHf (zFp w (z_u ss c k) n who ties a b c) 441).2 < (zSf w ss n who ties a b c k).2
    · rw [if_pos q, if_pos (Or.inr q)]
    · rw [if_neg q, if_neg (by omega)]
section M14
variable {w ks ss : Int → Int} {n : Nat} {la su nm np ns : Int → Int} {sz : Nat} {tp : Int → Int} {tn pl : Nat} {rs : Int} {rd : Int → Int} {lp ik : Int} {kp : Int → Int} {km kn : Int} {ln rz it : Int → Int}
theorem c_Mo_leagueOf {a b c : Nat} (ha : a < n) (hb : b < n) (hc : c < n) (hab : a ≠ b) (hL : zOkL n (la 0) (la 1)) (hS : zOkS ss n) (hW : zOkW w) :
    zMet m_Mo_leagueOf [.inr (.inr 0), .inl (a : Int), .inl (b : Int), .inl (c : Int)] (wMo w ks ss n la su nm np ns sz tp tn pl rs rd lp ik kp km kn ln rz it) (fun v wd => v = some (.inl ((zHf (zFp w ss n (la 0) (la 1) a b c) 441).1 : Int)) ∧ wd = wMo w ks ss n la su nm np ns sz tp tn pl rs rd (zHf (zFp w ss n (la 0) (la 1) a b c) 441).2 ik kp km kn ln rz it) := by
  have hn := hL.1
  have hwb := zWei21 hW
  have hf : ∀ p, 0 ≤ zFp w ss n (la 0) (la 1) a b c p ∧ zFp w ss n (la 0) (la 1) a b c p ≤ 2520 * zWeiN w 21 := fun p => zBu_in hW
  refine zMet.of (own := RX7) rfl (by decide +kernel) tk_Mo_leagueOf fok_Mo cok_Mo (Nat.le_of_ble_eq_true rfl) (fun G hG => ?_)
  refine hG.1 [27] 80 _ _ _ _ ?_
  refine ⟨by omega, by omega, ?_⟩
  suffices L : ∀ i, i ≤ 441 → ∀ s' : Int → Int, (∀ x y : Int, z_u (z_u s' a x) b y = z_u (z_u ss a x) b y) → G 27 [(0, .inr (.inr 0)), (1, .inl (a : Int)), (2, .inl (b : Int)), (3, .inl (c : Int)), (4, .inl (ss a)), (5, .inl (ss b)), (6, .inl ((zHf (zFp w ss n (la 0) (la 1) a b c) i).1 : Int)), (7, .inl (i : Int))] [] (wMo w ks (s') n la su nm np ns sz tp tn pl rs rd (zHf (zFp w ss n (la 0) (la 1) a b c) i).2 ik kp km kn ln rz it) from L 0 (by omega) ss (fun _ _ => rfl)
  refine z_up (fun s' hs' => ?_) (fun i hi ih s' hs' => ?_)
  · refine hG.1 [] 80 _ _ _ _ ?_
    refine ⟨by omega, fun h1 => ?_, fun h1 => absurd h1 (by omega)⟩
    refine ⟨by omega, by omega, trivial, rfl, ?_⟩
    show wMo w ks (z_u (z_u s' a (ss a)) b (ss b)) n la su nm np ns sz tp tn pl rs rd (zHf (zFp w ss n (la 0) (la 1) a b c) 441).2 ik kp km kn ln rz it = _
    rw [zPairBack hs']
  · have e : zHf (zFp w ss n (la 0) (la 1) a b c) (i + 1) = if (zHf (zFp w ss n (la 0) (la 1) a b c) i).2 < zFp w ss n (la 0) (la 1) a b c i then (i, zFp w ss n (la 0) (la 1) a b c i) else zHf (zFp w ss n (la 0) (la 1) a b c) i := rfl
    have hfi := hf i
    have hhi := zHf_in (show 0 ≤ 2520 * zWeiN w 21 by omega) hf i
    have hs2 : ∀ x y : Int, z_u (z_u (z_u (z_u ss a ((i / 21 : Nat) : Int)) b ((i % 21 : Nat) : Int)) a x) b y = z_u (z_u ss a x) b y := fun x y => by
      rw [z_u_comm _ (show ((b : Nat) : Int) ≠ a by omega), z_u_u, z_u_u]
    have ih := ih _ hs2
    rw [e] at ih
    refine hG.1 [27] 80 _ _ _ _ ?_
    refine ⟨by omega, fun h1 => absurd h1 (by omega), fun h1 => ?_⟩
    refine ⟨by omega, by omega, by omega, by omega, ?_⟩
    change G 59 [(0, .inr (.inr 0)), (1, .inl (a : Int)), (2, .inl (b : Int)), (3, .inl (c : Int)), (4, .inl (ss a)), (5, .inl (ss b)), (6, .inl ((zHf (zFp w ss n (la 0) (la 1) a b c) i).1 : Int)), (7, .inl (i : Int))] [.inl (c : Int), .inr (.inr 0)] (wMo w ks (z_u (z_u s' a ((i / 21 : Nat) : Int)) b ((i % 21 : Nat) : Int)) n la su nm np ns sz tp tn pl rs rd (zHf (zFp w ss n (la 0) (la 1) a b c) i).2 ik kp km kn ln rz it)
    rw [hs']
    refine hG.2.1 (c_Mo_meanParts (ss := z_u (z_u ss a ((i / 21 : Nat) : Int)) b ((i % 21 : Nat) : Int)) (g := c) hc hL (zOkS_p hi hS) hW) yv_Mo_meanParts lk_Mo_173 (by decide +kernel) rfl rfl [0, 1, 2, 3, 4, 5, 6, 7, 8, 9, 10, 11, 12, 13, 14] (by decide +kernel) rfl rfl rfl (Nat.le_of_ble_eq_true rfl) (fun v w2 hv hl2 => ?_)
    obtain ⟨rfl, rfl⟩ := hv
    change G _ _ _ (wMo w ks (z_u (z_u ss a ((i / 21 : Nat) : Int)) b ((i % 21 : Nat) : Int)) n la su nm np ns sz tp tn pl rs rd (zHf (zFp w ss n (la 0) (la 1) a b c) i).2 ik kp km kn ln rz it)
    have back : zBu w (z_u (z_u ss a ((i / 21 : Nat) : Int)) b ((i % 21 : Nat) : Int)) n (la 0) (la 1) c = zFp w ss n (la 0) (la 1) a b c i := rfl
    rw [back]
    refine hG.1 [27] 80 _ _ _ _ ?_
    refine ⟨by omega, fun h3 => ?_, fun h3 => ?_⟩
    · rw [if_neg (by omega)] at ih
      refine ⟨by omega, fun h4 => ?_, fun h4 => absurd h4 (by omega)⟩
      exact hG.2.2.2.2.1 (fun q hq => List.mem_append_left _ hq) ih
    · rw [if_pos h3] at ih
      refine ⟨by omega, fun h4 => absurd h4 (by omega), fun h4 => ?_⟩
      exact hG.2.2.2.2.1 (fun q hq => List.mem_append_left _ hq) ih
theorem c_Mo_league {a b c x : Int} (ha : -2147483648 ≤ a ∧ a ≤ 2147483647) (hb : -2147483648 ≤ b ∧ b ≤ 2147483647) (hc : -2147483648 ≤ c ∧ c ≤ 2147483647) (hx : -2147483648 ≤ x ∧ x ≤ 2147483647) (hL : zOkL n (la 0) (la 1)) (hS : zOkS ss n) (hW : zOkW w) :
    zMet m_Mo_league [.inr (.inr 0), .inl a, .inl b, .inl c, .inl x] (wMo w ks ss n la su nm np ns sz tp tn pl rs rd lp ik kp km kn ln rz it) (fun v wd => v = some (.inl (if z3 n a b c ∧ (0 ≤ x ∧ x ≤ 1) then (if zSumN w 21 = 0 then -2 else if x = 0 then (zPr w ss n (la 0) (la 1) a.toNat b.toNat c.toNat : Int) / 21 else (zPr w ss n (la 0) (la 1) a.toNat b.toNat c.toNat : Int) % 21) else -1)) ∧ ∃ l2 : Int, wd = wMo w ks ss n la su nm np ns sz tp tn pl rs rd (l2) ik kp km kn ln rz it) := by
  have hn := hL.1
  have hsum := zSumN_in hW
  refine zMet.of (own := RX7) rfl (by decide +kernel) tk_Mo_league fok_Mo cok_Mo (Nat.le_of_ble_eq_true rfl) (fun G hG => ?_)
  refine hG.1 [] 80 _ _ _ _ ?_
  refine hG.2.1 (c_Mo_areThree (a := a) (b := b) (c := c) ha hb hc hn) yv_Mo_areThree lk_Mo_190 (by decide +kernel) rfl rfl [0, 1, 2, 3, 4, 5, 6, 7, 8, 9, 10, 11, 12, 13, 14] (by decide +kernel) rfl rfl rfl (Nat.le_of_ble_eq_true rfl) (fun v w2 hv hl2 => ?_)
  obtain ⟨⟨h3, rfl⟩ | ⟨h3, rfl⟩, rfl⟩ := hv
  · change G _ _ _ (wMo w ks ss n la su nm np ns sz tp tn pl rs rd lp ik kp km kn ln rz it)
    refine hG.1 [] 80 _ _ _ _ ?_
    refine ⟨by omega, fun q => absurd q (by omega), fun q => ?_⟩
    refine ⟨by omega, ?_⟩
    refine hG.2.2.1 (c_Mo_in (a := x) (b := 0) (c := 1) (by omega) (by omega) (by omega)) ys_Mo_in (Or.inl lk_Mo_55) (by decide +kernel) rfl [] (by decide +kernel) rfl rfl rfl (Nat.le_of_ble_eq_true rfl) (fun v w2 hv hl2 => ?_)
    obtain ⟨⟨h4, rfl⟩ | ⟨h4, rfl⟩, rfl⟩ := hv
    · change G _ _ _ (wMo w ks ss n la su nm np ns sz tp tn pl rs rd lp ik kp km kn ln rz it)
      refine hG.1 [] 80 _ _ _ _ ?_
      refine ⟨by omega, fun q => ?_, fun q => absurd q (by omega)⟩
      refine hG.2.1 (c_Mo_allWeights ) yv_Mo_allWeights lk_Mo_79 (by decide +kernel) rfl rfl [0, 1, 2, 3, 4, 5, 6, 7, 8, 9, 10, 11, 12, 13, 14] (by decide +kernel) rfl rfl rfl (Nat.le_of_ble_eq_true rfl) (fun v w2 hv hl2 => ?_)
      obtain ⟨rfl, rfl⟩ := hv
      change G _ _ _ (wMo w ks ss n la su nm np ns sz tp tn pl rs rd lp ik kp km kn ln rz it)
      refine hG.1 [] 80 _ _ _ _ ?_
      refine ⟨by omega, fun h5 => ?_, fun h5 => ?_⟩
      · obtain ⟨ka, rfl⟩ := z_nat h3.1.1
        obtain ⟨kb, rfl⟩ := z_nat h3.2.1.1
        obtain ⟨kc, rfl⟩ := z_nat h3.2.2.1.1
        have hab : ka ≠ kb := fun z => h3.2.2.2.1 (by rw [z])
        have hla := h3.1.2
        have hlb := h3.2.1.2
        have hlc := h3.2.2.1.2
        have hwb := zWei21 hW
        have hf : ∀ p, 0 ≤ zFp w ss n (la 0) (la 1) ka kb kc p ∧ zFp w ss n (la 0) (la 1) ka kb kc p ≤ 2520 * zWeiN w 21 := fun p => zBu_in hW
        have hpr : zPr w ss n (la 0) (la 1) ka kb kc = (zHf (zFp w ss n (la 0) (la 1) ka kb kc) 441).1 := by
          unfold zPr
          rw [zHp_full (fun q => (hf q).2)]
        have hh := (zHf_in (show 0 ≤ 2520 * zWeiN w 21 by omega) hf 441).1
        refine hG.2.1 (c_Mo_leagueOf (a := ka) (b := kb) (c := kc) (by omega) (by omega) (by omega) hab hL hS hW) yv_Mo_leagueOf lk_Mo_194 (by decide +kernel) rfl rfl [0, 1, 2, 3, 4, 5, 6, 7, 8, 9, 10, 11, 12, 13, 14] (by decide +kernel) rfl rfl rfl (Nat.le_of_ble_eq_true rfl) (fun v w2 hv hl2 => ?_)
        obtain ⟨rfl, rfl⟩ := hv
        change G _ _ _ (wMo w ks ss n la su nm np ns sz tp tn pl rs rd (zHf (zFp w ss n (la 0) (la 1) ka kb kc) 441).2 ik kp km kn ln rz it)
        rw [← hpr] at hh ⊢
        refine hG.1 [] 80 _ _ _ _ ?_
        refine ⟨by omega, fun h6 => ?_, fun h6 => ?_⟩
        · refine ⟨by omega, trivial, ?_, _, rfl⟩
          rw [if_pos ⟨h3, h4⟩, if_neg h5, if_neg h6, Int.toNat_natCast, Int.toNat_natCast, Int.toNat_natCast]
        · refine ⟨by omega, trivial, ?_, _, rfl⟩
          rw [if_pos ⟨h3, h4⟩, if_neg h5, if_pos h6, Int.toNat_natCast, Int.toNat_natCast, Int.toNat_natCast]
      · exact ⟨trivial, by rw [if_pos ⟨h3, h4⟩, if_pos h5], _, rfl⟩
    · change G _ _ _ (wMo w ks ss n la su nm np ns sz tp tn pl rs rd lp ik kp km kn ln rz it)
      refine hG.1 [] 80 _ _ _ _ ?_
      refine ⟨by omega, fun q => absurd rfl q, fun q => ?_⟩
      exact ⟨trivial, by rw [if_neg (fun z => h4 z.2)], _, rfl⟩
  · change G _ _ _ (wMo w ks ss n la su nm np ns sz tp tn pl rs rd lp ik kp km kn ln rz it)
    refine hG.1 [] 80 _ _ _ _ ?_
    refine ⟨by omega, fun q => ?_, fun q => absurd rfl q⟩
    exact ⟨trivial, by rw [if_neg (fun z => h3 z.1)], _, rfl⟩
theorem c_Mo_shun {a b c : Int} (ha : -2147483648 ≤ a ∧ a ≤ 2147483647) (hb : -2147483648 ≤ b ∧ b ≤ 2147483647) (hc : -2147483648 ≤ c ∧ c ≤ 2147483647) (hL : zOkL n (la 0) (la 1)) (hS : zOkS ss n) (hW : zOkW w) :
    zMet m_Mo_shun [.inr (.inr 0), .inl a, .inl b, .inl c] (wMo w ks ss n la su nm np ns sz tp tn pl rs rd lp ik kp km kn ln rz it) (fun v wd => v = some (.inl (if z3 n a b c then (if zSumN w 21 = 0 then -2 else ((zSf w ss n (la 0) (la 1) a.toNat b.toNat c.toNat 21).1 : Int)) else -1)) ∧ ∃ l2 : Int, wd = wMo w ks ss n la su nm np ns sz tp tn pl rs rd (l2) ik kp km kn ln rz it) := by
  have hn := hL.1
  have hsum := zSumN_in hW
  refine zMet.of (own := RX7) rfl (by decide +kernel) tk_Mo_shun fok_Mo cok_Mo (Nat.le_of_ble_eq_true rfl) (fun G hG => ?_)
  refine hG.1 [] 80 _ _ _ _ ?_
  refine hG.2.1 (c_Mo_areThree (a := a) (b := b) (c := c) ha hb hc hn) yv_Mo_areThree lk_Mo_190 (by decide +kernel) rfl rfl [0, 1, 2, 3, 4, 5, 6, 7, 8, 9, 10, 11, 12, 13, 14] (by decide +kernel) rfl rfl rfl (Nat.le_of_ble_eq_true rfl) (fun v w2 hv hl2 => ?_)
  obtain ⟨⟨h3, rfl⟩ | ⟨h3, rfl⟩, rfl⟩ := hv
  · change G _ _ _ (wMo w ks ss n la su nm np ns sz tp tn pl rs rd lp ik kp km kn ln rz it)
    refine hG.1 [] 80 _ _ _ _ ?_
    refine ⟨by omega, fun q => ?_, fun q => absurd q (by omega)⟩
    refine hG.2.1 (c_Mo_allWeights ) yv_Mo_allWeights lk_Mo_79 (by decide +kernel) rfl rfl [0, 1, 2, 3, 4, 5, 6, 7, 8, 9, 10, 11, 12, 13, 14] (by decide +kernel) rfl rfl rfl (Nat.le_of_ble_eq_true rfl) (fun v w2 hv hl2 => ?_)
    obtain ⟨rfl, rfl⟩ := hv
    change G _ _ _ (wMo w ks ss n la su nm np ns sz tp tn pl rs rd lp ik kp km kn ln rz it)
    obtain ⟨ka, rfl⟩ := z_nat h3.1.1
    obtain ⟨kb, rfl⟩ := z_nat h3.2.1.1
    obtain ⟨kc, rfl⟩ := z_nat h3.2.2.1.1
    have hab : ka ≠ kb := fun z => h3.2.2.2.1 (by rw [z])
    have hla := h3.1.2
    have hlb := h3.2.1.2
    have hlc := h3.2.2.1.2
    have hwb := zWei21 hW
    refine hG.1 [39] 80 _ _ _ _ ?_
    refine ⟨by omega, fun h5 => ?_, fun h5 => ?_⟩
    · refine ⟨by omega, ?_⟩
      have hsr : ∀ i, (zSr w ss n (la 0) (la 1) ka kb kc i).1 ≤ i ∧ -1 ≤ (zSr w ss n (la 0) (la 1) ka kb kc i).2 ∧ (zSr w ss n (la 0) (la 1) ka kb kc i).2 ≤ 2520 * zWeiN w 21 + 1 := fun i => by
        have := zSf_in (ss := ss) (n := n) (who := la 0) (ties := la 1) (a := ka) (b := kb) (c := kc) hW i
        unfold zSr
        split
        · dsimp only; omega
        · omega
      suffices L : ∀ i, i ≤ 21 → ∀ (s' : Int → Int) (l2 : Int), (∀ x : Int, z_u s' kc x = z_u ss kc x) → G 39 [(0, .inr (.inr 0)), (1, .inl (ka : Int)), (2, .inl (kb : Int)), (3, .inl (kc : Int)), (4, .inl (ss kc)), (5, .inl ((zSr w ss n (la 0) (la 1) ka kb kc i).1 : Int)), (6, .inl (zSr w ss n (la 0) (la 1) ka kb kc i).2), (7, .inl (i : Int))] [] (wMo w ks (s') n la su nm np ns sz tp tn pl rs rd (l2) ik kp km kn ln rz it) from L 0 (by omega) ss lp (fun _ => rfl)
      refine z_up (fun s' l2 hs' => ?_) (fun i hi ih s' l2 hs' => ?_)
      · have e21 : zSr w ss n (la 0) (la 1) ka kb kc 21 = zSf w ss n (la 0) (la 1) ka kb kc 21 := by unfold zSr; rw [if_neg (by omega)]
        rw [e21]
        refine hG.1 [] 80 _ _ _ _ ?_
        refine ⟨by omega, fun h6 => ?_, fun h6 => absurd h6 (by omega)⟩
        refine ⟨by omega, trivial, by rw [if_pos h3, if_neg h5, Int.toNat_natCast, Int.toNat_natCast, Int.toNat_natCast], l2, ?_⟩
        show wMo w ks (z_u s' kc (ss kc)) n la su nm np ns sz tp tn pl rs rd (l2) ik kp km kn ln rz it = _
        rw [hs', z_u_self]
      · have e := zSr_step (w := w) (ss := ss) (n := n) (who := la 0) (ties := la 1) (a := ka) (b := kb) (c := kc) hW i
        have hsi := hsr i
        have hfi := (zHf_in (f := zFp w (z_u ss kc i) n (la 0) (la 1) ka kb kc) (M := 2520 * zWeiN w 21) (by omega) (fun q => zBu_in (w := w) hW) 441).2
        generalize hMi : (zHf (zFp w (z_u ss kc i) n (la 0) (la 1) ka kb kc) 441).2 = mi at e hfi
        have ih := ih (z_u ss kc i) mi (fun x => z_u_u ss kc i x)
        rw [e] at ih
        refine hG.1 [39] 80 _ _ _ _ ?_
        refine ⟨by omega, fun h6 => absurd h6 (by omega), fun h6 => ?_⟩
        refine ⟨by omega, ?_⟩
        change G 58 [(0, .inr (.inr 0)), (1, .inl (ka : Int)), (2, .inl (kb : Int)), (3, .inl (kc : Int)), (4, .inl (ss kc)), (5, .inl ((zSr w ss n (la 0) (la 1) ka kb kc i).1 : Int)), (6, .inl (zSr w ss n (la 0) (la 1) ka kb kc i).2), (7, .inl (i : Int))] [.inl (kc : Int), .inl (kb : Int), .inl (ka : Int), .inr (.inr 0)] (wMo w ks (z_u s' kc i) n la su nm np ns sz tp tn pl rs rd (l2) ik kp km kn ln rz it)
        rw [hs']
        refine hG.2.1 (c_Mo_leagueOf (ss := z_u ss kc i) (lp := l2) (a := ka) (b := kb) (c := kc) (by omega) (by omega) (by omega) hab hL (zOkS_u hS (by omega)) hW) yv_Mo_leagueOf lk_Mo_194 (by decide +kernel) rfl rfl [0, 1, 2, 3, 4, 5, 6, 7, 8, 9, 10, 11, 12, 13, 14] (by decide +kernel) rfl rfl rfl (Nat.le_of_ble_eq_true rfl) (fun v w2 hv hl2 => ?_)
        obtain ⟨rfl, rfl⟩ := hv
        change G _ _ _ (wMo w ks (z_u ss kc i) n la su nm np ns sz tp tn pl rs rd (zHf (zFp w (z_u ss kc i) n (la 0) (la 1) ka kb kc) 441).2 ik kp km kn ln rz it)
        rw [hMi]
        refine hG.1 [39] 80 _ _ _ _ ?_
        refine ⟨by omega, fun h7 => ?_, fun h7 => ?_⟩
        · rw [if_pos (Or.inl h7)] at ih
          refine ⟨by omega, fun h8 => ?_, fun h8 => absurd h8 (by omega)⟩
          exact ih
        · refine ⟨by omega, fun h8 => ?_, fun h8 => ?_⟩
          · rw [if_neg (by omega)] at ih
            refine ⟨by omega, fun h9 => absurd h9 (by omega), fun h9 => ?_⟩
            refine ⟨by omega, fun h9 => ?_, fun h9 => absurd h9 (by omega)⟩
            exact ih
          · rw [if_pos (Or.inr h8)] at ih
            refine ⟨by omega, fun h9 => absurd h9 (by omega), fun h9 => ?_⟩
            refine ⟨by omega, fun h9 => absurd h9 (by omega), fun h9 => ?_⟩
            exact ih
    · exact ⟨trivial, by rw [if_pos h3, if_pos h5], _, rfl⟩
  · change G _ _ _ (wMo w ks ss n la su nm np ns sz tp tn pl rs rd lp ik kp km kn ln rz it)
    refine hG.1 [] 80 _ _ _ _ ?_
    refine ⟨by omega, fun q => absurd rfl q, fun q => ?_⟩
    exact ⟨trivial, by rw [if_neg h3], _, rfl⟩
end M14
