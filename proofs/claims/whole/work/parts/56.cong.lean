/-! WHAT IS SAID HANGS ON THE GUESTS THAT ARE THERE ALONE -/
def zAgS (n : Nat) (f g : Int → Int) : Prop := ∀ j : Nat, j < n → f j = g j
section Cg
variable {ss ss2 : Int → Int} {n : Nat}
theorem zAgS_u {g : Nat} {x : Int} (h : zAgS n ss ss2) : zAgS n (z_u ss g x) (z_u ss2 g x) := fun j hj => by
  unfold z_u
  by_cases e : (j : Int) = (g : Int)
  · rw [if_pos e, if_pos e]
  · rw [if_neg e, if_neg e]; exact h j hj
theorem zOff_c (h : zAgS n ss ss2) {sum : Int} {o : Nat} (ho : o < n) : zOff ss sum o = zOff ss2 sum o := by
  unfold zOff; rw [h o ho]
theorem zPlaceN_c (h : zAgS n ss ss2) {g : Nat} (hg : g < n) : ∀ k, k ≤ n → zPlaceN ss g k = zPlaceN ss2 g k
  | 0, _ => rfl
  | k + 1, hk => by
    have h1 := zPlaceN_c h hg k (by omega)
    unfold zPlaceN
    rw [h1, h k (by omega), h g hg]
theorem zFindN_c (h : zAgS n ss ss2) (mid : Nat) : ∀ d i, i + d ≤ n → zFindN ss n mid i d = zFindN ss2 n mid i d
  | 0, i, _ => rfl
  | d + 1, i, hd => by
    have h1 := zFindN_c h mid d (i + 1) (by omega)
    unfold zFindN
    rw [h1, zPlaceN_c h (show i < n by omega) n (Nat.le_refl n)]
theorem zFree_c (h : zAgS n ss ss2) (who : Int) : zFree ss n who = zFree ss2 n who := by
  unfold zFree
  rw [zFindN_c h ((n - 1) / 2) n 0 (by omega)]
theorem zAheadN_c (h : zAgS n ss ss2) {ties sum : Int} {g : Nat} (hg : g < n) : ∀ k, k ≤ n → zAheadN ss ties sum g k = zAheadN ss2 ties sum g k
  | 0, _ => rfl
  | k + 1, hk => by
    have h1 := zAheadN_c h (ties := ties) (sum := sum) hg k (by omega)
    unfold zAheadN
    rw [h1, zOff_c h (sum := sum) (show k < n by omega), zOff_c h (sum := sum) hg]
theorem zBad_c (h : zAgS n ss ss2) {who ties sum : Int} {g : Nat} {free : Int} (hg : g < n) {o : Nat} (ho : o < n) : zBad ss who ties sum g free o ↔ zBad ss2 who ties sum g free o := by
  unfold zBad
  rw [zOff_c h (sum := sum) ho, zOff_c h (sum := sum) hg]
theorem zBadN_c (h : zAgS n ss ss2) {who ties sum : Int} {g : Nat} {free : Int} (hg : g < n) : zBadN ss who ties sum g free n ↔ zBadN ss2 who ties sum g free n := by
  rw [zBadN_iff, zBadN_iff]
  exact ⟨fun ⟨o, h1, h2⟩ => ⟨o, h1, (zBad_c h hg h1).mp h2⟩, fun ⟨o, h1, h2⟩ => ⟨o, h1, (zBad_c h hg h1).mpr h2⟩⟩
theorem zAlikeN_c (h : zAgS n ss ss2) {sum : Int} {g : Nat} {free : Int} (hg : g < n) : ∀ k, k ≤ n → zAlikeN ss sum g free k = zAlikeN ss2 sum g free k
  | 0, _ => rfl
  | k + 1, hk => by
    have h1 := zAlikeN_c h (sum := sum) (free := free) hg k (by omega)
    unfold zAlikeN
    rw [h1, zOff_c h (sum := sum) (show k < n by omega), zOff_c h (sum := sum) hg]
theorem zSh_c (h : zAgS n ss ss2) {who ties sum : Int} {free : Int} (g : Nat) : zSh ss n who ties sum g free = zSh ss2 n who ties sum g free := by
  unfold zSh
  by_cases c : n ≤ g ∨ (g : Int) = free
  · rw [if_pos c, if_pos c]
  · rw [if_neg c, if_neg c]
    have hg : g < n := by omega
    by_cases w2 : who = 2
    · rw [if_pos w2, if_pos w2]
      unfold zShTwo
      rw [zAheadN_c h hg n (Nat.le_refl n)]
    · rw [if_neg w2, if_neg w2]
      by_cases b : zBadN ss who ties sum g free n
      · rw [zShMost_bad b, zShMost_bad ((zBadN_c h hg).mp b)]
      · rw [zShMost_good b, zShMost_good (fun z => b ((zBadN_c h hg).mpr z)), zAlikeN_c h hg n (Nat.le_refl n)]
theorem zPay_c (h : zAgS n ss ss2) (who ties sum : Int) : zPay ss n who ties sum = zPay ss2 n who ties sum := by
  funext g
  unfold zPay
  rw [zFree_c h, zSh_c h]
theorem zDue_c (h : zAgS n ss ss2) (who ties : Int) (g : Nat) : zDue ss n who ties g = zDue ss2 n who ties g := by
  funext k
  unfold zDue
  rw [zFree_c h, zSh_c h]
variable {w w2 : Int → Int}
theorem zSumN_c (h : zAgW w w2) : ∀ k, k ≤ 21 → zSumN w k = zSumN w2 k
  | 0, _ => rfl
  | k + 1, hk => by
    have h1 := zSumN_c h k (by omega)
    unfold zSumN
    rw [h1, h k (by omega)]
theorem zPosN_c (h : zAgW w w2) : ∀ k, k ≤ 21 → zPosN w k = zPosN w2 k
  | 0, _ => rfl
  | k + 1, hk => by
    have h1 := zPosN_c h k (by omega)
    unfold zPosN
    rw [h1, h k (by omega)]
theorem zWeiN_c (h : zAgW w w2) : ∀ k, k ≤ 21 → zWeiN w k = zWeiN w2 k
  | 0, _ => rfl
  | k + 1, hk => by
    have h1 := zWeiN_c h k (by omega)
    unfold zWeiN
    rw [h1, h k (by omega)]
theorem zMean_c (h : zAgW w w2) : zMean w = zMean w2 := by
  unfold zMean
  rw [zSumN_c h 21 (Nat.le_refl 21), zWeiN_c h 21 (Nat.le_refl 21)]
theorem zBuN_c (h : zAgS n ss ss2) (hw : zAgW w w2) (who ties : Int) (g : Nat) : ∀ k, k ≤ 21 → zBuN w ss n who ties g k = zBuN w2 ss2 n who ties g k
  | 0, _ => rfl
  | k + 1, hk => by
    have h1 := zBuN_c h hw who ties g k (by omega)
    unfold zBuN
    rw [h1, hw k (by omega), zFree_c h, zSh_c h]
theorem zBu_c (h : zAgS n ss ss2) (hw : zAgW w w2) (who ties : Int) (g : Nat) : zBu w ss n who ties g = zBu w2 ss2 n who ties g := zBuN_c h hw who ties g 21 (Nat.le_refl 21)
theorem zFs_c (h : zAgS n ss ss2) (hw : zAgW w w2) (who ties : Int) (g : Nat) : zFs w ss n who ties g = zFs w2 ss2 n who ties g := by
  funext x
  unfold zFs
  exact zBu_c (zAgS_u h) hw who ties g
theorem zLi_c (h : zAgS n ss ss2) (hw : zAgW w w2) (who ties : Int) (g : Nat) : zLi w ss n who ties g = zLi w2 ss2 n who ties g := by
  unfold zLi
  rw [zFs_c h hw, zWeiN_c hw 21 (Nat.le_refl 21)]
theorem zBet_c {ks ks2 : Int → Int} (hk : zAgS n ks ks2) (h : zAgS n ss ss2) (hw : zAgW w w2) (who ties : Int) {g : Nat} (hg : g < n) : zBet w ks ss n who ties g = zBet w2 ks2 ss2 n who ties g := by
  unfold zBet
  rw [hk g hg, h g hg, zFs_c h hw, zLi_c h hw, zBu_c h hw]
theorem zTk_c {ks ks2 : Int → Int} (hk : zAgS n ks ks2) (hw : zAgW w w2) (who ties : Int) : ∀ (d g kept ch : Nat) (s s2 : Int → Int), (0 < n → g < n) → zAgS n s s2 → (zTk w ks n who ties d g kept ch s).1 = (zTk w2 ks2 n who ties d g kept ch s2).1 ∧ zAgS n (zTk w ks n who ties d g kept ch s).2 (zTk w2 ks2 n who ties d g kept ch s2).2
  | 0, g, kept, ch, s, s2, _, h => ⟨rfl, h⟩
  | d + 1, g, kept, ch, s, s2, hg, h => by
    unfold zTk
    by_cases c : kept < n
    · rw [if_neg (show ¬ ¬ kept < n from fun z => z c), if_neg (show ¬ ¬ kept < n from fun z => z c)]
      have hgn := hg (by omega)
      have hnx : 0 < n → (if g + 1 < n then g + 1 else 0) < n := fun h0 => by split <;> omega
      rw [zBet_c hk h hw who ties hgn, h g hgn]
      by_cases e : zBet w2 ks2 s2 n who ties g = s2 g
      · rw [if_pos e, if_pos e]
        exact zTk_c hk hw who ties d _ _ _ s s2 hnx h
      · rw [if_neg e, if_neg e]
        exact zTk_c hk hw who ties d _ _ _ _ _ hnx (zAgS_u h)
    · rw [if_pos c, if_pos c]
      exact ⟨rfl, h⟩
theorem zFp_c (h : zAgS n ss ss2) (hw : zAgW w w2) (who ties : Int) (a b c : Nat) : zFp w ss n who ties a b c = zFp w2 ss2 n who ties a b c := by
  funext p
  unfold zFp
  exact zBu_c (zAgS_u (zAgS_u h)) hw who ties c
theorem zPr_c (h : zAgS n ss ss2) (hw : zAgW w w2) (who ties : Int) (a b c : Nat) : zPr w ss n who ties a b c = zPr w2 ss2 n who ties a b c := by
  unfold zPr
  rw [zFp_c h hw, zWeiN_c hw 21 (Nat.le_refl 21)]
theorem zSf_c (h : zAgS n ss ss2) (hw : zAgW w w2) (who ties : Int) (a b c : Nat) : ∀ k, zSf w ss n who ties a b c k = zSf w2 ss2 n who ties a b c k
  | 0 => by
    show (0, 2520 * zWeiN w 21 + 1) = (0, 2520 * zWeiN w2 21 + 1)
    rw [zWeiN_c hw 21 (Nat.le_refl 21)]
  | k + 1 => by
    have h1 := zSf_c h hw who ties a b c k
    have h2 := zFp_c (zAgS_u (g := c) (x := (k : Int)) h) hw who ties a b c
    unfold zSf
    rw [h1, h2]
theorem zHs_c {x : Int} {f g : Nat → Int} (h : f = g) (k : Nat) : zHs x f k = zHs x g k := by rw [h]
theorem zChM_c (h : zAgS n ss ss2) (x who ties : Int) : ∀ k, zChM x ss n who ties k = zChM x ss2 n who ties k
  | 0 => rfl
  | k + 1 => by
    have h1 := zChM_c h x who ties k
    unfold zChM
    rw [h1, zPay_c h]
theorem zAlone_c {ks ks2 : Int → Int} (hk : zAgS n ks ks2) (h : zAgS n ss ss2) (sum mean : Int) {j : Nat} (hj : j < n) : zAlone ks ss sum mean j = zAlone ks2 ss2 sum mean j := by
  unfold zAlone
  rw [hk j hj, h j hj]
theorem zChgN_c {ks ks2 : Int → Int} (hk : zAgS n ks ks2) (h : zAgS n ss ss2) (sum mean : Int) : ∀ k, k ≤ n → zChgN ks ss sum mean k = zChgN ks2 ss2 sum mean k
  | 0, _ => rfl
  | k + 1, hk2 => by
    have h1 := zChgN_c hk h sum mean k (by omega)
    unfold zChgN
    rw [h1, zAlone_c hk h sum mean (show k < n by omega), h k (by omega)]
theorem zWr_c {ks ks2 : Int → Int} (hk : zAgS n ks ks2) (h : zAgS n ss ss2) (sum mean : Int) : zAgS n (zWr ks ss sum mean n) (zWr ks2 ss2 sum mean n) := fun j hj => by
  unfold zWr
  rw [if_pos (by omega), if_pos (by omega)]
  exact zAlone_c hk h sum mean hj
end Cg
-- ranges
theorem zChgN_le (ks ss : Int → Int) (sum mean : Int) : ∀ k, zChgN ks ss sum mean k ≤ k
  | 0 => Nat.le_refl _
  | k + 1 => by have := zChgN_le ks ss sum mean k; unfold zChgN; split <;> omega
theorem zPosN_le (w : Int → Int) : ∀ k, zPosN w k ≤ k
  | 0 => Nat.le_refl _
  | k + 1 => by have := zPosN_le w k; unfold zPosN; split <;> omega
theorem zWr_in {ks ss : Int → Int} {n : Nat} {sum mean : Int} (hS : zOkS ss n) (h1 : 0 ≤ sum ∧ sum ≤ 20) (h2 : 0 ≤ mean ∧ mean ≤ 20) : zOkS (zWr ks ss sum mean n) n := fun j hj => by
  have h3 := hS j hj
  unfold zWr
  rw [if_pos (by omega)]
  unfold zAlone; repeat' split
  all_goals omega
theorem zTk_in {w ks : Int → Int} {n : Nat} {who ties : Int} : ∀ (d g kept ch : Nat) (s : Int → Int), zOkS s n → (0 < n → g < n) → (zTk w ks n who ties d g kept ch s).1 ≤ ch + d ∧ zOkS (zTk w ks n who ties d g kept ch s).2 n
  | 0, g, kept, ch, s, h, _ => ⟨by show ch ≤ ch + 0; omega, h⟩
  | d + 1, g, kept, ch, s, h, hg => by
    unfold zTk
    by_cases c : kept < n
    · rw [if_neg (show ¬ ¬ kept < n from fun z => z c)]
      have hgn := hg (by omega)
      have hnx : 0 < n → (if g + 1 < n then g + 1 else 0) < n := fun h0 => by split <;> omega
      by_cases e : zBet w ks s n who ties g = s g
      · rw [if_pos e]
        have := zTk_in (w := w) (ks := ks) (who := who) (ties := ties) d (if g + 1 < n then g + 1 else 0) (kept + 1) ch s h hnx
        exact ⟨by omega, this.2⟩
      · rw [if_neg e]
        have := zTk_in (w := w) (ks := ks) (who := who) (ties := ties) d (if g + 1 < n then g + 1 else 0) 0 (ch + 1) (z_u s g (zBet w ks s n who ties g)) (zOkS_u h (zBet_in hgn h)) hnx
        exact ⟨by omega, this.2⟩
    · rw [if_pos c]
      exact ⟨by show ch ≤ _; omega, h⟩
theorem zLow_in {t b : Nat} {part : Int} (hb : 0 < b) : 0 ≤ zLow t b part ∧ (zLow t b part ≤ (t : Int) ∨ zLow t b part ≤ (b : Int)) := by
  unfold zLow
  split
  · exact ⟨Int.natCast_nonneg _, Or.inl (Int.ofNat_le.mpr (Nat.div_le_self t (Nat.gcd b t)))⟩
  · exact ⟨Int.natCast_nonneg _, Or.inr (Int.ofNat_le.mpr (Nat.div_le_self b (Nat.gcd b t)))⟩
