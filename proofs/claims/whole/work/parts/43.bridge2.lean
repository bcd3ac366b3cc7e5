/-! THE BRIDGE: the one in the middle; payers -/
theorem fb_holes : ∀ (m n : Nat) (f : Nat → Nat), (∀ i, i < n → f i < m) → (∀ i j, i < j → j < n → f i ≠ f j) → n ≤ m := by
  intro m
  induction m with
  | zero =>
    intro n f h1 _
    rcases Nat.eq_zero_or_pos n with h | h
    · omega
    · exact absurd (h1 0 h) (Nat.not_lt_zero _)
  | succ m ih =>
    intro n f h1 h2
    by_cases hx : ∃ i, i < n ∧ f i = m
    · obtain ⟨a, ha, hfa⟩ := hx
      have hg := ih (n - 1) (fun i => if i < a then f i else f (i + 1)) (by
        intro i hi
        by_cases q : i < a
        · simp only [if_pos q]
          have b1 := h1 i (by omega)
          have b2 := h2 i a q ha
          omega
        · simp only [if_neg q]
          have b1 := h1 (i + 1) (by omega)
          have b2 := h2 a (i + 1) (by omega) (by omega)
          omega) (by
        intro i j hij hj
        by_cases q : i < a
        · by_cases r : j < a
          · simp only [if_pos q, if_pos r]
            exact h2 i j hij (by omega)
          · simp only [if_pos q, if_neg r]
            exact h2 i (j + 1) (by omega) (by omega)
        · have r : ¬ j < a := by omega
          simp only [if_neg q, if_neg r]
          exact h2 (i + 1) (j + 1) (by omega) (by omega))
      omega
    · have hg := ih n f (fun i hi => by
        have b1 := h1 i hi
        have b2 : f i ≠ m := fun e => hx ⟨i, hi, e⟩
        omega) h2
      omega
/-- two of them in one place -/
theorem fb_twice {m n : Nat} {f : Nat → Nat} (h : ∀ i, i < n → f i < m) (hm : m < n) : ∃ i j, i < j ∧ j < n ∧ f i = f j := by
  refine Classical.byContradiction fun hx => ?_
  have := fb_holes m n f h (fun i j hij hj e => hx ⟨i, j, hij, hj, e⟩)
  omega
/-- as many as places, none twice: each place is taken -/
theorem fb_onto {n : Nat} {f : Nat → Nat} (h : ∀ i, i < n → f i < n) (h2 : ∀ i j, i < j → j < n → f i ≠ f j) {y : Nat} (hy : y < n) : ∃ i, i < n ∧ f i = y := by
  refine Classical.byContradiction fun hx => ?_
  have hne : ∀ i, i < n → f i ≠ y := fun i hi e => hx ⟨i, hi, e⟩
  have := fb_holes (n - 1) n (fun i => if f i < y then f i else f i - 1) (by
    intro i hi
    have b1 := h i hi
    have b2 := hne i hi
    by_cases q : f i < y
    · simp only [if_pos q]; omega
    · simp only [if_neg q]; omega) (by
    intro i j hij hj
    have b1 := hne i (by omega)
    have b2 := hne j hj
    have b3 := h2 i j hij hj
    by_cases q : f i < y
    · by_cases r : f j < y
      · simp only [if_pos q, if_pos r]; exact b3
      · simp only [if_pos q, if_neg r]; omega
    · by_cases r : f j < y
      · simp only [if_neg q, if_pos r]; omega
      · simp only [if_neg q, if_neg r]; omega)
  omega
/-! ===== how many places have a property ===== -/
theorem zPlace_ct (ss : Int → Int) (g : Nat) : ∀ k, zPlaceN ss g k = zCt (fun o => decide (ss o < ss g ∨ (ss o = ss g ∧ o < g))) k
  | 0 => rfl
  | k + 1 => by
    have h := zPlace_ct ss g k
    unfold zPlaceN zCt
    rw [h]
    by_cases q : ss k < ss g ∨ (ss k = ss g ∧ k < g)
    · rw [if_pos q, if_pos (decide_eq_true q)]
    · rw [if_neg q, if_neg (by rw [decide_eq_false q]; simp)]
theorem zPlace_inj {ss : Int → Int} {n g h : Nat} (hg : g < n) (hlt : ss g < ss h ∨ (ss g = ss h ∧ g < h)) : zPlaceN ss g n < zPlaceN ss h n := by
  rw [zPlace_ct, zPlace_ct]
  refine zCt_lt (g := g) (fun k hk => ?_) (decide_eq_true hlt) (decide_eq_false (by omega)) hg
  have := of_decide_eq_true hk
  exact decide_eq_true (by omega)
theorem zPlace_lt {ss : Int → Int} {n g : Nat} (hg : g < n) : zPlaceN ss g n < n := by
  have h := zCt_lt (p := fun o => decide (ss o < ss g ∨ (ss o = ss g ∧ o < g))) (q := fun _ => true) (fun _ _ => rfl) (g := g) rfl (decide_eq_false (by omega)) hg
  rw [zCt_all, ← zPlace_ct] at h
  exact h
theorem zPlace_one {ss : Int → Int} {n g h : Nat} (hg : g < n) (hh : h < n) (e : zPlaceN ss g n = zPlaceN ss h n) : g = h := by
  rcases Nat.lt_trichotomy g h with q | q | q
  · rcases Classical.em (ss h < ss g) with r | r
    · have := zPlace_inj (ss := ss) hh (Or.inl r); omega
    · have := zPlace_inj (ss := ss) (g := g) (h := h) hg (by omega); omega
  · exact q
  · rcases Classical.em (ss g < ss h) with r | r
    · have := zPlace_inj (ss := ss) hg (Or.inl r); omega
    · have := zPlace_inj (ss := ss) (g := h) (h := g) hh (by omega); omega
theorem zFindN_at {ss : Int → Int} {n mid j : Nat} (hm : zPlaceN ss j n = mid) (hj : j < n) : ∀ d i, i + d = n → i ≤ j → zFindN ss n mid i d = (j : Int)
  | 0, i, h1, h2 => by omega
  | d + 1, i, h1, h2 => by
    unfold zFindN
    by_cases q : zPlaceN ss i n = mid
    · rw [if_pos q, zPlace_one (show i < n by omega) hj (q.trans hm.symm)]
    · rw [if_neg q]
      have : i ≠ j := fun z => q (z ▸ hm)
      exact zFindN_at hm hj d (i + 1) (by omega) (by omega)
theorem zMid_at {ss : Int → Int} {n j : Nat} (hm : zPlaceN ss j n = (n - 1) / 2) (hj : j < n) : ∀ k, j < k → k ≤ n → zMid ss n k = (j : Int)
  | 0, h, _ => absurd h (Nat.not_lt_zero _)
  | k + 1, h, h2 => by
    unfold zMid
    by_cases q : j = k
    · subst q; rw [if_pos (by omega)]
    · rw [if_neg (fun z => q (zPlace_one (ss := ss) hj (show k < n by omega) (by omega)))]
      exact zMid_at hm hj k (by omega) (by omega)
theorem zMid_free {ss : Int → Int} {n : Nat} (hn : 2 ≤ n) : ∃ j, j < n ∧ zMid ss n n = (j : Int) ∧ zFree ss n 3 = (j : Int) := by
  obtain ⟨j, h1, h2⟩ := fb_onto (n := n) (f := fun g => zPlaceN ss g n) (fun i hi => zPlace_lt hi) (fun i j hij hj e => by
    have := zPlace_one (ss := ss) (show i < n by omega) hj e; omega) (y := (n - 1) / 2) (by omega)
  refine ⟨j, h1, zMid_at h2 h1 n h1 (Nat.le_refl n), ?_⟩
  rw [zFree, if_pos ⟨rfl, hn⟩]
  exact zFindN_at h2 h1 n 0 (by omega) (Nat.zero_le _)
def zP0 (n : Nat) (free : Int) : Nat → Bool := fun k => decide (k < n ∧ (k : Int) ≠ free)
def zM0 (ss : Int → Int) (n : Nat) (who sum free : Int) : Nat → Bool := fun g => zP0 n free g && decide (zDst (if who = 1 then 1 else 0) ss sum g = (zFar (if who = 1 then 1 else 0) ss sum (zP0 n free) n).1)
section Py
variable {ss : Int → Int} {n : Nat} {who ties sum free : Int}
theorem zDst_cmp (g o : Nat) : (zDst (if who = 1 then 1 else 0) ss sum g < zDst (if who = 1 then 1 else 0) ss sum o ↔ ((who = 1 ∧ zOff ss sum o < zOff ss sum g) ∨ (who ≠ 1 ∧ zOff ss sum g < zOff ss sum o))) ∧ (zDst (if who = 1 then 1 else 0) ss sum o = zDst (if who = 1 then 1 else 0) ss sum g ↔ zOff ss sum o = zOff ss sum g) := by
  have e1 : ∀ x, zDst 1 ss sum x = 99 - zOff ss sum x := fun x => by unfold zDst; rw [if_neg (by omega)]
  have e0 : ∀ x, zDst 0 ss sum x = zOff ss sum x := fun x => by unfold zDst; rw [if_pos rfl]
  by_cases h : who = 1
  · rw [if_pos h, e1, e1]; omega
  · rw [if_neg h, e0, e0]; omega
theorem zP0_iff (o : Nat) : zP0 n free o = true ↔ (o < n ∧ (o : Int) ≠ free) := decide_eq_true_iff
theorem zM0_iff (o : Nat) : zM0 ss n who sum free o = true ↔ ((o < n ∧ (o : Int) ≠ free) ∧ zDst (if who = 1 then 1 else 0) ss sum o = (zFar (if who = 1 then 1 else 0) ss sum (zP0 n free) n).1) := by
  unfold zM0
  rw [Bool.and_eq_true, decide_eq_true_iff, zP0_iff]
theorem zDst_0 (hS : zOkS ss n) (hs : 0 ≤ sum ∧ sum ≤ 20) : ∀ g, g < n → 0 ≤ zDst (if who = 1 then 1 else 0) ss sum g := fun g hg => (zDst_in (hS g hg) hs).1
theorem zMost_iff (hS : zOkS ss n) (hs : 0 ≤ sum ∧ sum ≤ 20) {g : Nat} (hg : g < n) (hf : (g : Int) ≠ free) :
    ¬ zBadN ss who ties sum g free n ↔ (zM0 ss n who sum free g = true ∧ (ties = 0 → ∀ o, o < g → zM0 ss n who sum free o = false) ∧ (ties = 2 → ∀ o, g < o → o < n → zM0 ss n who sum free o = false)) := by
  obtain ⟨a1, a2, _, _⟩ := zFar_max (p := zP0 n free) (zDst_0 (who := who) hS hs) n (Nat.le_refl n)
  have hM := zM0_iff (ss := ss) (n := n) (who := who) (sum := sum) (free := free)
  have hp := zP0_iff (n := n) (free := free)
  have hc := fun o => zDst_cmp (ss := ss) (who := who) (sum := sum) g o
  obtain ⟨g0, b1, b2, b3⟩ := a2 ⟨g, hg, (hp g).mpr ⟨hg, hf⟩⟩
  generalize (zFar (if who = 1 then 1 else 0) ss sum (zP0 n free) n).1 = D at a1 b3 hM
  rw [zBadN_iff]
  constructor
  · intro hb
    have hb' : ∀ o, o < n → ¬ zBad ss who ties sum g free o := fun o ho z => hb ⟨o, ho, z⟩
    have hD : zDst (if who = 1 then 1 else 0) ss sum g = D := by
      have h1 := a1 g hg ((hp g).mpr ⟨hg, hf⟩)
      by_cases e : g0 = g
      · rw [← e]; exact b3
      · have h4 := (hp g0).mp b2
        have h5 : ¬ (zDst (if who = 1 then 1 else 0) ss sum g < zDst (if who = 1 then 1 else 0) ss sum g0) := fun z => hb' g0 b1 ⟨e, h4.2, ((hc g0).1.mp z).elim Or.inl (fun q => Or.inr (Or.inl q))⟩
        omega
    refine ⟨(hM g).mpr ⟨⟨hg, hf⟩, hD⟩, fun ht o ho => ?_, fun ht o h1 h2 => ?_⟩
    · cases hMo : zM0 ss n who sum free o with
      | false => rfl
      | true =>
        have h6 := (hM o).mp hMo
        exact absurd ⟨by omega, h6.1.2, Or.inr (Or.inr ⟨(hc o).2.mp (h6.2.trans hD.symm), Or.inl ⟨ht, ho⟩⟩)⟩ (hb' o h6.1.1)
    · cases hMo : zM0 ss n who sum free o with
      | false => rfl
      | true =>
        have h6 := (hM o).mp hMo
        exact absurd ⟨by omega, h6.1.2, Or.inr (Or.inr ⟨(hc o).2.mp (h6.2.trans hD.symm), Or.inr ⟨ht, h1⟩⟩)⟩ (hb' o h6.1.1)
  · rintro ⟨h1, h2, h3⟩ ⟨o, ho, hno, hnf, hbad⟩
    have hD := ((hM g).mp h1).2
    have h4 := a1 o ho ((hp o).mpr ⟨ho, hnf⟩)
    rcases hbad with q | q | ⟨q, r⟩
    · have := (hc o).1.mpr (Or.inl q); omega
    · have := (hc o).1.mpr (Or.inr q); omega
    · have h6 : zM0 ss n who sum free o = true := (hM o).mpr ⟨⟨ho, hnf⟩, by rw [(hc o).2.mpr q]; exact hD⟩
      rcases r with ⟨t, l⟩ | ⟨t, l⟩
      · have := h2 t o l; rw [h6] at this; cases this
      · have := h3 t o l ho; rw [h6] at this; cases this
theorem zAlike_ct {g : Nat} (hg : zM0 ss n who sum free g = true) : ∀ k, k ≤ n → zAlikeN ss sum g free k = zCt (fun o => decide (o ≠ g) && zM0 ss n who sum free o) k
  | 0, _ => rfl
  | k + 1, hk => by
    have h := zAlike_ct hg k (by omega)
    have hD := ((zM0_iff g).mp hg).2
    have hc := (zDst_cmp (ss := ss) (who := who) (sum := sum) g k).2
    unfold zAlikeN zCt
    rw [h]
    by_cases q : k ≠ g ∧ (k : Int) ≠ free ∧ zOff ss sum k = zOff ss sum g
    · have h2 : zM0 ss n who sum free k = true := (zM0_iff k).mpr ⟨⟨by omega, q.2.1⟩, by rw [hc.mpr q.2.2]; exact hD⟩
      rw [if_pos q, if_pos (by rw [h2, decide_eq_true q.1]; rfl)]
    · rw [if_neg q, if_neg (fun z => ?_)]
      rw [Bool.and_eq_true, decide_eq_true_iff, zM0_iff] at z
      exact q ⟨z.1, z.2.1.2, hc.mp (z.2.2.trans hD.symm)⟩
theorem zPop_p2 : ∀ j, j < 9 → zPop 9 (2 ^ j) = 1 := by decide
noncomputable def zQ0 (ss : Int → Int) (n : Nat) (who ties sum free : Int) : Nat → Bool := fun g => decide (0 < zSh ss n who ties sum g free)
theorem zSh_most (hw : who ≠ 2) (hn : n ≤ 9) (hS : zOkS ss n) (hs : 0 ≤ sum ∧ sum ≤ 20) (ht : 0 ≤ ties ∧ ties ≤ 2) (hex : ∃ g, g < n ∧ (g : Int) ≠ free) :
    zFm ss n ties (if who = 1 then 1 else 0) sum (zP0 n free) = ((zMaskN (zQ0 ss n who ties sum free) n : Nat) : Int) ∧
    ∀ g, g < n → zSh ss n who ties sum g free = if zQ0 ss n who ties sum free g = true then 2520 / ((zPop 9 (zMaskN (zQ0 ss n who ties sum free) n) : Nat) : Int) else 0 := by
  obtain ⟨a1, a2, _, a4⟩ := zFar_max (p := zP0 n free) (zDst_0 (who := who) hS hs) n (Nat.le_refl n)
  have a5 : (zFar (if who = 1 then 1 else 0) ss sum (zP0 n free) n).2 = zMaskN (zM0 ss n who sum free) n := a4
  have hgood : ∀ g, g < n → (g : Int) ≠ free → ¬ zBadN ss who ties sum g free n → zSh ss n who ties sum g free = (if ties = 1 then 2520 / (1 + (zAlikeN ss sum g free n : Int)) else 2520) := fun g hg hf hb => by
    rw [zSh, if_neg (by omega), if_neg hw, zShMost_good hb]
  have hpos : ∀ g : Nat, 0 < (if ties = 1 then 2520 / (1 + (zAlikeN ss sum g free n : Int)) else 2520) := fun g => by
    have := zAlikeN_le ss sum g free n
    split
    · have h0 : (0 : Int) < 1 + (zAlikeN ss sum g free n : Int) := by omega
      have h1 : (1 : Int) ≤ 2520 / (1 + (zAlikeN ss sum g free n : Int)) := (Int.le_ediv_iff_mul_le h0).mpr (by omega)
      omega
    · omega
  have hQ : ∀ g, g < n → (zQ0 ss n who ties sum free g = true ↔ (zM0 ss n who sum free g = true ∧ (ties = 0 → ∀ o, o < g → zM0 ss n who sum free o = false) ∧ (ties = 2 → ∀ o, g < o → o < n → zM0 ss n who sum free o = false))) := fun g hg => by
    unfold zQ0
    rw [decide_eq_true_iff]
    by_cases hf : (g : Int) = free
    · have h0 : zSh ss n who ties sum g free = 0 := by rw [zSh, if_pos (Or.inr hf)]
      rw [h0]
      exact ⟨fun z => by omega, fun z => absurd hf ((zM0_iff g).mp z.1).1.2⟩
    · rw [← zMost_iff hS hs hg hf]
      constructor
      · intro z hb
        rw [zSh, if_neg (by omega), if_neg hw, zShMost_bad hb] at z
        omega
      · intro hb
        rw [hgood g hg hf hb]; exact hpos g
  have hval : ∀ g, g < n → zQ0 ss n who ties sum free g = true → zSh ss n who ties sum g free = (if ties = 1 then 2520 / (1 + (zAlikeN ss sum g free n : Int)) else 2520) := fun g hg hq => by
    have h1 := (hQ g hg).mp hq
    have h2 := ((zM0_iff g).mp h1.1).1.2
    exact hgood g hg h2 ((zMost_iff hS hs hg h2).mpr h1)
  have hzero : ∀ g, ¬ zQ0 ss n who ties sum free g = true → zSh ss n who ties sum g free = 0 := fun g hq => by
    have h1 := zSh_in ss n who ties sum g free
    unfold zQ0 at hq
    rw [decide_eq_true_iff] at hq
    omega
  have hMex : ∃ g, g < n ∧ zM0 ss n who sum free g = true := by
    obtain ⟨g, h1, h2⟩ := hex
    obtain ⟨g0, b1, b2, b3⟩ := a2 ⟨g, h1, (zP0_iff g).mpr ⟨h1, h2⟩⟩
    exact ⟨g0, b1, (zM0_iff g0).mpr ⟨(zP0_iff g0).mp b2, b3⟩⟩
  have h512 := zMask9 (p := zM0 ss n who sum free) hn
  have htb := zMask_tb (zM0 ss n who sum free) n
  unfold zFm
  rw [a5]
  by_cases t1 : ties = 1
  · have hMQ : zMaskN (zM0 ss n who sum free) n = zMaskN (zQ0 ss n who ties sum free) n := zMask_cong (fun k hk => by
      have h1 := hQ k hk
      cases hq : zQ0 ss n who ties sum free k with
      | true => exact (h1.mp hq).1
      | false =>
        cases hm : zM0 ss n who sum free k with
        | false => rfl
        | true => rw [h1.mpr ⟨hm, fun z => by omega, fun z => by omega⟩] at hq; cases hq)
    rw [if_pos t1, hMQ]
    refine ⟨rfl, fun g hg => ?_⟩
    by_cases hq : zQ0 ss n who ties sum free g = true
    · have hm := ((hQ g hg).mp hq).1
      rw [if_pos hq, hval g hg hq, if_pos t1, ← hMQ, zPop_mask hn, zCt_rem hm hg, zAlike_ct hm n (Nat.le_refl n)]
      congr 1
      omega
    · rw [if_neg hq, hzero g hq]
  · have key : ∀ j, j < n → (∀ k, k < n → (zQ0 ss n who ties sum free k = true ↔ k = j)) → zOne ties (zMaskN (zM0 ss n who sum free) n) = ((2 ^ j : Nat) : Int) →
        (if ties = 1 then ((zMaskN (zM0 ss n who sum free) n : Nat) : Int) else zOne ties (zMaskN (zM0 ss n who sum free) n)) = ((zMaskN (zQ0 ss n who ties sum free) n : Nat) : Int) ∧
        ∀ g, g < n → zSh ss n who ties sum g free = if zQ0 ss n who ties sum free g = true then 2520 / ((zPop 9 (zMaskN (zQ0 ss n who ties sum free) n) : Nat) : Int) else 0 := by
      intro j hj hjq ho
      rw [if_neg t1, ho, zMask_one hj hjq, zPop_p2 j (by omega)]
      refine ⟨rfl, fun g hg => ?_⟩
      by_cases hq : zQ0 ss n who ties sum free g = true
      · rw [if_pos hq, hval g hg hq, if_neg t1]; rfl
      · rw [if_neg hq, hzero g hq]
    by_cases t2 : ties = 2
    · obtain ⟨j, j1, j2, j3⟩ := zLastEx hMex
      refine key j j1 (fun k hk => ?_) ?_
      · rw [hQ k hk]
        constructor
        · rintro ⟨h1, _, h3⟩
          rcases Nat.lt_trichotomy k j with h | h | h
          · have := h3 t2 j h j1; rw [j2] at this; cases this
          · exact h
          · have := j3 k h hk; rw [h1] at this; cases this
        · rintro rfl
          exact ⟨j2, fun z => by omega, fun _ => j3⟩
      · unfold zOne
        rw [if_pos t2]
        refine zLst_at (decide_eq_true ((zBit_mask hn (by omega)).mpr ⟨j1, j2⟩)) (by omega) (fun i h1 h2 => decide_eq_false (fun z => ?_))
        have h3 := (zBit_mask hn h2).mp z
        have := j3 i h1 h3.1
        rw [h3.2] at this; cases this
    · have t0 : ties = 0 := by omega
      obtain ⟨j, j1, j2, j3⟩ := zFirstEx hMex
      refine key j j1 (fun k hk => ?_) ?_
      · rw [hQ k hk]
        constructor
        · rintro ⟨h1, h2, _⟩
          rcases Nat.lt_trichotomy k j with h | h | h
          · have := j3 k h; rw [h1] at this; cases this
          · exact h
          · have := h2 t0 j h; rw [j2] at this; cases this
        · rintro rfl
          exact ⟨j2, fun _ => j3, fun z => by omega⟩
      · unfold zOne
        rw [if_neg t2]
        refine zLow9 _ h512 j (by omega) ?_ (fun i hi => ?_)
        · rw [htb, decide_eq_true j1, j2]; rfl
        · rw [htb, j3 i hi, Bool.and_false]
end Py
