/-! THE BRIDGE: the farthest two; who pays; the reference's parts -/
def zAhB (ss : Int → Int) (ties sum : Int) (o g : Nat) : Bool := decide (zOff ss sum g < zOff ss sum o ∨ (zOff ss sum o = zOff ss sum g ∧ ((ties = 2 ∧ g < o) ∨ (ties ≠ 2 ∧ o < g))))
section Ah
variable {ss : Int → Int} {ties sum : Int}
theorem zAhB_iff (o g : Nat) : zAhB ss ties sum o g = true ↔ (zOff ss sum g < zOff ss sum o ∨ (zOff ss sum o = zOff ss sum g ∧ ((ties = 2 ∧ g < o) ∨ (ties ≠ 2 ∧ o < g)))) := decide_eq_true_iff
theorem zAhB_irr (g : Nat) : zAhB ss ties sum g g = false := decide_eq_false (by omega)
theorem zAhB_asym {o g : Nat} (h : zAhB ss ties sum o g = true) : zAhB ss ties sum g o = false := by
  have := (zAhB_iff o g).mp h
  exact decide_eq_false (by omega)
theorem zAhB_trans {o g k : Nat} (h : zAhB ss ties sum o g = true) (h2 : zAhB ss ties sum g k = true) : zAhB ss ties sum o k = true := by
  have a := (zAhB_iff o g).mp h
  have b := (zAhB_iff g k).mp h2
  exact decide_eq_true (by omega)
theorem zAhead_ct (g : Nat) : ∀ k, zAheadN ss ties sum g k = zCt (fun o => zAhB ss ties sum o g) k
  | 0 => rfl
  | k + 1 => by
    have h := zAhead_ct g k
    unfold zAheadN zCt
    rw [h]
    by_cases q : zOff ss sum g < zOff ss sum k ∨ (zOff ss sum k = zOff ss sum g ∧ ((ties = 2 ∧ g < k) ∨ (ties ≠ 2 ∧ k < g)))
    · rw [if_pos q, if_pos ((zAhB_iff k g).mpr q)]
    · rw [if_neg q, if_neg (fun z => q ((zAhB_iff k g).mp z))]
theorem zFst_spec {p : Nat → Bool} : ∀ {k : Nat}, (∃ g, g < k ∧ p g = true) → ∃ f, zFst ss ties sum p k = ((f : Nat) : Int) ∧ f < k ∧ p f = true ∧ ∀ g, g < k → p g = true → g ≠ f → zAhB ss ties sum f g = true
  | 0, ⟨g, h, _⟩ => absurd h (Nat.not_lt_zero _)
  | k + 1, ⟨g, h, hp⟩ => by
    have e : zFst ss ties sum p (k + 1) = if p k = true ∧ (zFst ss ties sum p k < 0 ∨ zOff ss sum (zFst ss ties sum p k).toNat < zOff ss sum k ∨ (ties = 2 ∧ zOff ss sum k = zOff ss sum (zFst ss ties sum p k).toNat)) then (k : Int) else zFst ss ties sum p k := rfl
    rcases Classical.em (∃ g, g < k ∧ p g = true) with q | q
    · obtain ⟨f, e1, hf, hpf, hb⟩ := zFst_spec q
      rw [e1, Int.toNat_natCast] at e
      by_cases c : p k = true ∧ ((f : Int) < 0 ∨ zOff ss sum f < zOff ss sum k ∨ (ties = 2 ∧ zOff ss sum k = zOff ss sum f))
      · rw [if_pos c] at e
        have hkf : zAhB ss ties sum k f = true := (zAhB_iff k f).mpr (by omega)
        refine ⟨k, e, by omega, c.1, fun g hg hpg hne => ?_⟩
        by_cases hgf : g = f
        · rw [hgf]; exact hkf
        · exact zAhB_trans hkf (hb g (by omega) hpg hgf)
      · rw [if_neg c] at e
        refine ⟨f, e, by omega, hpf, fun g hg hpg hne => ?_⟩
        by_cases hgk : g = k
        · subst hgk
          have c2 : ¬ ((f : Int) < 0 ∨ zOff ss sum f < zOff ss sum g ∨ (ties = 2 ∧ zOff ss sum g = zOff ss sum f)) := fun z => c ⟨hpg, z⟩
          exact (zAhB_iff f g).mpr (by omega)
        · exact hb g (by omega) hpg hne
    · have hgk : g = k := Classical.byContradiction fun z => q ⟨g, by omega, hp⟩
      subst hgk
      have hm : zFst ss ties sum p g < 0 := by
        have key : ∀ m, m ≤ g → zFst ss ties sum p m = -1 := by
          intro m
          induction m with
          | zero => intro _; rfl
          | succ m ih =>
            intro hm
            unfold zFst
            rw [if_neg (fun z => q ⟨m, by omega, z.1⟩)]
            exact ih (by omega)
        have := key g (Nat.le_refl g); omega
      rw [if_pos ⟨hp, Or.inl hm⟩] at e
      exact ⟨g, e, by omega, hp, fun o ho hpo hne => absurd ⟨o, by omega, hpo⟩ q⟩
/-- the two that pay -/
theorem zTwo_iff {n f s : Nat} (hf : f < n) (hs : s < n) (hfs : f ≠ s) (h1 : ∀ g, g < n → g ≠ f → zAhB ss ties sum f g = true) (h2 : ∀ g, g < n → g ≠ f → g ≠ s → zAhB ss ties sum s g = true) : ∀ g, g < n → (1 < zAheadN ss ties sum g n ↔ ¬ (g = f ∨ g = s)) := by
  intro g hg
  rw [zAhead_ct]
  by_cases q1 : g = f
  · subst q1
    have h0 : zCt (fun o => zAhB ss ties sum o g) n = 0 := zCt_0 (fun k hk => by
      by_cases e : k = g
      · rw [e]; exact zAhB_irr g
      · exact zAhB_asym (h1 k hk e))
    rw [h0]; omega
  · have a1 := zCt_rem (p := fun o => zAhB ss ties sum o g) (h1 g hg q1) hf
    rw [a1]
    by_cases q2 : g = s
    · subst q2
      have h0 : zCt (fun o => decide (o ≠ f) && zAhB ss ties sum o g) n = 0 := zCt_0 (fun k hk => by
        by_cases e : k = f
        · rw [decide_eq_false (show ¬ k ≠ f from fun z => z e), Bool.false_and]
        · by_cases e2 : k = g
          · rw [e2, zAhB_irr, Bool.and_false]
          · rw [zAhB_asym (h2 k hk e e2), Bool.and_false])
      rw [h0]; omega
    · have a2 := zCt_rem (p := fun o => decide (o ≠ f) && zAhB ss ties sum o g) (g := s) (by
        show (decide (s ≠ f) && zAhB ss ties sum s g) = true
        rw [decide_eq_true (show s ≠ f by omega), h2 g hg q1 q2]; rfl) hs
      rw [a2]; omega
end Ah
theorem zOr_two {p : Nat → Bool} {n f s : Nat} (hn : n ≤ 9) (hf : f < n) (hs : s < n) (h : ∀ k, k < n → (p k = true ↔ (k = f ∨ k = s))) : z_or (1 * 2 ^ ((f : Nat) : Int).toNat) (1 * 2 ^ ((s : Nat) : Int).toNat) = ((zMaskN p n : Nat) : Int) := by
  have b1 := z_p2lt f (by omega)
  have b2 := z_p2lt s (by omega)
  rw [z_p2 f (by omega), z_p2 s (by omega), z_orN (by omega) (by omega)]
  refine congrArg _ (Nat.eq_of_testBit_eq (fun k => ?_))
  rw [Nat.testBit_or, Nat.testBit_two_pow, Nat.testBit_two_pow, zMask_tb]
  by_cases hk : k < n
  · rw [decide_eq_true hk, Bool.true_and]
    by_cases e : k = f ∨ k = s
    · rw [(h k hk).mpr e]
      rcases e with e | e
      · rw [decide_eq_true e.symm, Bool.true_or]
      · rw [decide_eq_true e.symm, Bool.or_true]
    · have h3 : p k = false := by
        cases hp : p k with
        | false => rfl
        | true => exact absurd ((h k hk).mp hp) e
      rw [h3, decide_eq_false (show ¬ f = k by omega), decide_eq_false (show ¬ s = k by omega)]; rfl
  · rw [decide_eq_false hk, Bool.false_and, decide_eq_false (show ¬ f = k by omega), decide_eq_false (show ¬ s = k by omega)]; rfl
theorem zPyM_eq {ss : Int → Int} {n : Nat} {who ties sum : Int} (hn1 : 1 ≤ n) (hn : n ≤ 9) (hS : zOkS ss n) (hs : 0 ≤ sum ∧ sum ≤ 20) (hw : 0 ≤ who ∧ who ≤ 3) (ht : 0 ≤ ties ∧ ties ≤ 2) :
    zPyM ss n who ties sum = ((zMaskN (zPay ss n who ties sum) n : Nat) : Int) ∧
    ∀ g, g < n → zSh ss n who ties sum g (zFree ss n who) = if zPay ss n who ties sum g = true then 2520 / ((zPop 9 (zMaskN (zPay ss n who ties sum) n) : Nat) : Int) else 0 := by
  by_cases w2 : who = 2
  · have hfree : zFree ss n who = -1 := by rw [zFree, if_neg (by omega)]
    have hsh : ∀ g, g < n → zSh ss n who ties sum g (zFree ss n who) = zShTwo ss n ties sum g := fun g hg => by
      rw [hfree, zSh, if_neg (by omega), if_pos w2]
    have hpay : ∀ g, g < n → (zPay ss n who ties sum g = true ↔ ¬ 1 < zAheadN ss ties sum g n) := fun g hg => by
      unfold zPay
      rw [decide_eq_true_iff, hsh g hg, zShTwo]
      split
      · omega
      · split <;> omega
    by_cases n1 : n = 1
    · subst n1
      have h1 := zFst_in (ss := ss) (ties := ties) (sum := sum) (p := fun k => decide (k < 1)) 1
      have h2 := zFst_pos (ss := ss) (ties := ties) (sum := sum) (p := fun k => decide (k < 1)) (k := 0) (decide_eq_true (by omega)) 1 (by omega)
      have h3 : (zFst ss ties sum (fun k => decide (k < 1)) 1).toNat = 0 := by omega
      have h4 : ∀ k, k < 1 → zPay ss 1 who ties sum k = true := fun k hk => (hpay k hk).mpr (by
        have := zAheadN_le ss ties sum k 1; omega)
      have hm : zMaskN (zPay ss 1 who ties sum) 1 = 2 ^ 0 := zMask_one (by omega) (fun k hk => ⟨fun _ => by omega, fun _ => h4 k hk⟩)
      rw [hm, zPop_p2 0 (by omega), zPyM, if_pos w2, if_pos rfl, h3]
      refine ⟨rfl, fun g hg => ?_⟩
      have h5 := (hpay g hg).mp (h4 g hg)
      rw [if_pos (h4 g hg), hsh g hg, zShTwo, if_neg h5, if_pos rfl]
      rfl
    · obtain ⟨f, e1, f1, _, f3⟩ := zFst_spec (ss := ss) (ties := ties) (sum := sum) (p := fun k => decide (k < n)) (k := n) ⟨0, by omega, decide_eq_true (by omega)⟩
      have hk0 : ∃ k, k < n ∧ k ≠ f := by
        by_cases h0 : f = 0
        · exact ⟨1, by omega, by omega⟩
        · exact ⟨0, by omega, by omega⟩
      obtain ⟨k0, k1, k2⟩ := hk0
      obtain ⟨s, e2, s1, s2, s3⟩ := zFst_spec (ss := ss) (ties := ties) (sum := sum) (p := fun k => decide (k < n ∧ k ≠ f)) (k := n) ⟨k0, k1, decide_eq_true ⟨k1, k2⟩⟩
      have hsf := (of_decide_eq_true s2).2
      have htwo := zTwo_iff (ss := ss) (ties := ties) (sum := sum) f1 s1 (fun z => hsf z.symm) (fun g hg hne => f3 g hg (decide_eq_true hg) hne) (fun g hg hne hne2 => s3 g hg (decide_eq_true ⟨hg, hne⟩) hne2)
      have hpay2 : ∀ k, k < n → (zPay ss n who ties sum k = true ↔ (k = f ∨ k = s)) := fun k hk => by
        have a := hpay k hk
        have b := htwo k hk
        rw [a, b]; omega
      have hpop : zPop 9 (zMaskN (zPay ss n who ties sum) n) = 2 := by
        rw [zPop_mask hn, zCt_rem ((hpay2 f f1).mpr (Or.inl rfl)) f1, zCt_rem (g := s) (by
          show (decide (s ≠ f) && zPay ss n who ties sum s) = true
          rw [decide_eq_true hsf, (hpay2 s s1).mpr (Or.inr rfl)]; rfl) s1, zCt_0 (fun k hk => by
          show (decide (k ≠ s) && (decide (k ≠ f) && zPay ss n who ties sum k)) = false
          by_cases c1 : k = s
          · rw [decide_eq_false (show ¬ k ≠ s from fun z => z c1), Bool.false_and]
          · by_cases c2 : k = f
            · rw [decide_eq_false (show ¬ k ≠ f from fun z => z c2), Bool.false_and, Bool.and_false]
            · cases hp : zPay ss n who ties sum k with
              | false => rw [Bool.and_false, Bool.and_false]
              | true => exact absurd ((hpay2 k hk).mp hp) (by omega))]
      rw [hpop, zPyM, if_pos w2, if_neg n1, e1, Int.toNat_natCast, e2]
      refine ⟨zOr_two hn f1 s1 hpay2, fun g hg => ?_⟩
      have a := hpay g hg
      rw [hsh g hg, zShTwo]
      by_cases c : 1 < zAheadN ss ties sum g n
      · rw [if_pos c, if_neg (fun z => a.mp z c)]
      · rw [if_neg c, if_pos (a.mpr c), if_neg n1]; rfl
  · by_cases w3 : who = 3 ∧ 1 < n
    · obtain ⟨j, j1, j2, j3⟩ := zMid_free (ss := ss) (n := n) (by omega)
      have hfree : zFree ss n who = (j : Int) := by rw [w3.1]; exact j3
      have hk0 : ∃ k : Nat, k < n ∧ (k : Int) ≠ (j : Int) := by
        by_cases h0 : j = 0
        · exact ⟨1, by omega, by omega⟩
        · exact ⟨0, by omega, by omega⟩
      have h := zSh_most (ss := ss) (n := n) (who := who) (ties := ties) (sum := sum) (free := (j : Int)) w2 hn hS hs ht hk0
      have hpp : (fun k => decide (k < n ∧ k ≠ j)) = zP0 n (j : Int) := funext fun k => decide_eq_decide.mpr (by omega)
      rw [zPyM, if_neg w2, if_pos w3, j2, Int.toNat_natCast, hpp]
      rw [if_neg (show ¬ who = 1 by omega)] at h
      have hq : zPay ss n who ties sum = zQ0 ss n who ties sum (j : Int) := by
        unfold zPay zQ0
        rw [hfree]
      rw [hq, hfree]
      exact h
    · have hfree : zFree ss n who = -1 := by rw [zFree, if_neg (by omega)]
      have h := zSh_most (ss := ss) (n := n) (who := who) (ties := ties) (sum := sum) (free := -1) w2 hn hS hs ht ⟨0, by omega, by omega⟩
      have hpp : (fun k => decide (k < n)) = zP0 n (-1) := funext fun k => decide_eq_decide.mpr (by omega)
      rw [zPyM, if_neg w2, if_neg w3, hpp]
      have hq : zPay ss n who ties sum = zQ0 ss n who ties sum (-1) := by
        unfold zPay zQ0
        rw [hfree]
      rw [hq, hfree]
      exact h
section M11
variable {w ks ss : Int → Int} {n : Nat} {la su nm np ns : Int → Int} {sz : Nat} {tp : Int → Int} {tn pl : Nat} {rs : Int} {rd : Int → Int} {lp ik : Int} {kp : Int → Int} {km kn : Int} {ln rz it : Int → Int}
theorem c_Mo_payers2 {sum : Int} (hn1 : 1 ≤ n) (hn : n ≤ 9) (hS : zOkS ss n) (hs : 0 ≤ sum ∧ sum ≤ 20) (hlw : 0 ≤ la 0 ∧ la 0 ≤ 3) (hla : 0 ≤ la 1 ∧ la 1 ≤ 2) :
    zMet m_Mo_payers [.inr (.inr 0), .inl sum] (wMo w ks ss n la su nm np ns sz tp tn pl rs rd lp ik kp km kn ln rz it) (fun v wd => v = some (.inl ((zMaskN (zPay ss n (la 0) (la 1) sum) n : Nat) : Int)) ∧ wd = wMo w ks ss n la su nm np ns sz tp tn pl rs rd lp ik kp km kn ln rz it) := by
  have h := c_Mo_payers (w := w) (ks := ks) (ss := ss) (n := n) (la := la) (su := su) (nm := nm) (np := np) (ns := ns) (sz := sz) (tp := tp) (tn := tn) (pl := pl) (rs := rs) (rd := rd) (lp := lp) (ik := ik) (kp := kp) (km := km) (kn := kn) (ln := ln) (rz := rz) (it := it) hn1 hn hS hs hlw hla
  rw [(zPyM_eq hn1 hn hS hs hlw hla).1] at h
  exact h
theorem c_Mo_partsFor {g k : Nat} (hg : g < n) (hk : k ≤ 20) (hn : n ≤ 9) (hS : zOkS ss n) (hlw : 0 ≤ la 0 ∧ la 0 ≤ 3) (hla : 0 ≤ la 1 ∧ la 1 ≤ 2) :
    zMet m_Mo_partsFor [.inr (.inr 0), .inl (g : Int), .inl (k : Int)] (wMo w ks ss n la su nm np ns sz tp tn pl rs rd lp ik kp km kn ln rz it) (fun v wd => v = some (.inl (zDue ss n (la 0) (la 1) g k)) ∧ wd = wMo w ks ss n la su nm np ns sz tp tn pl rs rd lp ik kp km kn ln rz it) := by
  have hb := (zPyM_eq (ss := ss) (n := n) (sum := (k : Int)) (show 1 ≤ n by omega) hn hS (by omega) hlw hla).2 g hg
  have h9 := zMask9 (p := zPay ss n (la 0) (la 1) (k : Int)) hn
  have hbit := zBit_mask (p := zPay ss n (la 0) (la 1) (k : Int)) (k := g) hn (by omega)
  have hpos : zPay ss n (la 0) (la 1) (k : Int) g = true → 0 < zPop 9 (zMaskN (zPay ss n (la 0) (la 1) (k : Int)) n) := fun h => by
    rw [zPop_mask hn, zCt_rem h hg]; omega
  have hp9 := zPop_9 _ h9
  refine zMet.of (own := RX7) rfl (by decide +kernel) tk_Mo_partsFor fok_Mo cok_Mo (Nat.le_of_ble_eq_true rfl) (fun G hG => ?_)
  refine hG.1 [] 80 _ _ _ _ ?_
  refine hG.2.1 (c_Mo_payers2 (sum := (k : Int)) (show 1 ≤ n by omega) hn hS (by omega) hlw hla) yv_Mo_payers lk_Mo_150 (by decide +kernel) rfl rfl [0, 1, 2, 3, 4, 5, 6, 7, 8, 9, 10, 11, 12, 13, 14] (by decide +kernel) rfl rfl rfl (Nat.le_of_ble_eq_true rfl) (fun v w2 hv hl2 => ?_)
  obtain ⟨rfl, rfl⟩ := hv
  change G _ _ _ (wMo w ks ss n la su nm np ns sz tp tn pl rs rd lp ik kp km kn ln rz it)
  refine hG.1 [] 80 _ _ _ _ ?_
  refine hG.2.2.1 (c_Mo_has (x := ((zMaskN (zPay ss n (la 0) (la 1) (k : Int)) n : Nat) : Int)) (g := g) (by omega) (by omega)) ys_Mo_has (Or.inl lk_Mo_129) (by decide +kernel) rfl [] (by decide +kernel) rfl rfl rfl (Nat.le_of_ble_eq_true rfl) (fun v w2 hv hl2 => ?_)
  obtain ⟨⟨hc, rfl⟩ | ⟨hc, rfl⟩, rfl⟩ := hv
  · change G _ _ _ (wMo w ks ss n la su nm np ns sz tp tn pl rs rd lp ik kp km kn ln rz it)
    have hc2 := (hbit.mp hc).2
    have hp0 := hpos hc2
    refine hG.1 [] 80 _ _ _ _ ?_
    refine ⟨by omega, fun q => absurd q (by omega), fun q => ?_⟩
    refine hG.2.2.1 (c_Mo_ones (s := zMaskN (zPay ss n (la 0) (la 1) (k : Int)) n) h9) ys_Mo_ones (Or.inl lk_Mo_153) (by decide +kernel) rfl [] (by decide +kernel) rfl rfl rfl (Nat.le_of_ble_eq_true rfl) (fun v w2 hv hl2 => ?_)
    obtain ⟨rfl, rfl⟩ := hv
    change G _ _ _ (wMo w ks ss n la su nm np ns sz tp tn pl rs rd lp ik kp km kn ln rz it)
    refine hG.1 [] 80 _ _ _ _ ?_
    exact ⟨by omega, trivial, by rw [zDue, hb, if_pos hc2], rfl⟩
  · change G _ _ _ (wMo w ks ss n la su nm np ns sz tp tn pl rs rd lp ik kp km kn ln rz it)
    refine hG.1 [] 80 _ _ _ _ ?_
    refine ⟨by omega, fun q => ?_, fun q => absurd rfl q⟩
    exact ⟨trivial, by rw [zDue, hb, if_neg (fun z => hc (hbit.mpr ⟨hg, z⟩)), Int.mul_zero], rfl⟩
end M11
