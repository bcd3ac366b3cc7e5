/-! THE REFERENCE: images -/
def zKv (w ks ss la su nm np ns : Int → Int) (k : Nat) : Int := if k < 21 then w k else if k < 30 then ks ((k : Int) - 21) else if k < 39 then ss ((k : Int) - 30) else if k < 41 then la ((k : Int) - 39) else if k < 53 then su ((k : Int) - 41) else if k < 65 then nm ((k : Int) - 53) else if k < 77 then np ((k : Int) - 65) else ns ((k : Int) - 77)
def zKu (f : Int → Int) (o n k : Nat) (x : Int) : Int → Int := if o ≤ k ∧ k < o + n then z_u f ((k : Int) - (o : Int)) x else f
def zKx (f : Int → Int) (o n : Nat) (kp : Int → Int) (i : Nat) : Int → Int := fun j => if (0 ≤ j ∧ j < (n : Int)) ∧ (o : Int) + j < (i : Int) then kp ((o : Int) + j) else f j
theorem zKx_0 (f : Int → Int) (o n : Nat) (kp : Int → Int) : zKx f o n kp 0 = f := by
  funext j; unfold zKx; rw [if_neg (by omega)]
theorem zKx_put (f : Int → Int) (o n : Nat) (kp : Int → Int) (i : Nat) : zKu (zKx f o n kp i) o n i (kp i) = zKx f o n kp (i + 1) := by
  unfold zKu
  by_cases c : o ≤ i ∧ i < o + n
  · rw [if_pos c]
    funext j
    unfold z_u zKx
    by_cases e : j = (i : Int) - (o : Int)
    · rw [if_pos e, if_pos (by omega), e, show (o : Int) + ((i : Int) - (o : Int)) = (i : Int) by omega]
    · rw [if_neg e]
      by_cases e2 : (0 ≤ j ∧ j < (n : Int)) ∧ (o : Int) + j < (i : Int)
      · rw [if_pos e2, if_pos (by omega)]
      · rw [if_neg e2, if_neg (by omega)]
  · rw [if_neg c]
    funext j
    unfold zKx
    by_cases e2 : (0 ≤ j ∧ j < (n : Int)) ∧ (o : Int) + j < (i : Int)
    · rw [if_pos e2, if_pos (by omega)]
    · rw [if_neg e2, if_neg (by omega)]
theorem zKu_in {f : Int → Int} {o n k : Nat} {x j : Int} (h : o ≤ k ∧ k < o + n) (e : j = (k : Int) - (o : Int)) : zKu f o n k x = z_u f j x := by
  unfold zKu; rw [if_pos h, e]
theorem zKu_out {f : Int → Int} {o n k : Nat} {x : Int} (h : ¬ (o ≤ k ∧ k < o + n)) : zKu f o n k x = f := by
  unfold zKu; rw [if_neg h]
section M18
variable {w ks ss : Int → Int} {n : Nat} {la su nm np ns : Int → Int} {sz : Nat} {tp : Int → Int} {tn pl : Nat} {rs : Int} {rd : Int → Int} {lp ik : Int} {kp : Int → Int} {km kn : Int} {ln rz it : Int → Int}
theorem c_Mo_carried0 {k : Nat} {x : Int} (hk : k < 185) :
    zMet m_Mo_carried [.inr (.inr 0), .inl (k : Int), .inl x, .inl 0] (wMo w ks ss n la su nm np ns sz tp tn pl rs rd lp ik kp km kn ln rz it) (fun v wd => v = some (.inl (zKv w ks ss la su nm np ns k)) ∧ wd = wMo w ks ss n la su nm np ns sz tp tn pl rs rd lp ik kp km kn ln rz it) := by
  refine zMet.of (own := RX7) rfl (by decide +kernel) tk_Mo_carried fok_Mo cok_Mo (Nat.le_of_ble_eq_true rfl) (fun G hG => ?_)
  refine hG.1 [] 120 _ _ _ _ ?_
  refine ⟨by omega, fun h1 => ?_, fun h1 => ?_⟩
  · refine ⟨by omega, fun h2 => ?_, fun h2 => ?_⟩
    · refine ⟨by omega, fun h3 => ?_, fun h3 => ?_⟩
      · refine ⟨by omega, fun h4 => ?_, fun h4 => ?_⟩
        · -- slips of nights
          refine ⟨by omega, fun q => ?_, fun q => absurd rfl q⟩
          refine ⟨by omega, by omega, by omega, trivial, ?_, ?_⟩
          · show some (Sum.inl (z_u ns ((k : Int) + -21 + -18 + -2 + -36) (ns ((k : Int) + -21 + -18 + -2 + -36)) ((k : Int) + -21 + -18 + -2 + -36))) = _
            rw [z_u_self, show (k : Int) + -21 + -18 + -2 + -36 = (k : Int) - 77 by omega]
            unfold zKv
            rw [if_neg (by omega), if_neg (by omega), if_neg (by omega), if_neg (by omega), if_neg (by omega), if_neg (by omega), if_neg (by omega)]
          · show wMo w ks ss n la su nm np (z_u ns ((k : Int) + -21 + -18 + -2 + -36) (ns ((k : Int) + -21 + -18 + -2 + -36))) sz tp tn pl rs rd lp ik kp km kn ln rz it = _
            rw [z_u_self]
        · refine ⟨by omega, ?_⟩
          refine ⟨by omega, fun q => ?_, fun q => absurd rfl q⟩
          refine ⟨by omega, by omega, ?_⟩
          refine ⟨by omega, fun q => ?_, fun q => absurd rfl q⟩
          refine ⟨by omega, by omega, ?_⟩
          refine ⟨by omega, fun q => ?_, fun q => absurd rfl q⟩
          refine ⟨by omega, by omega, ?_⟩
          have ew : wMo w ks ss n la (z_u su (((k : Int) + -21 + -18 + -2) % 12) (su (((k : Int) + -21 + -18 + -2) % 12))) (z_u nm (((k : Int) + -21 + -18 + -2) % 12) (nm (((k : Int) + -21 + -18 + -2) % 12))) (z_u np (((k : Int) + -21 + -18 + -2) % 12) (np (((k : Int) + -21 + -18 + -2) % 12))) ns sz tp tn pl rs rd lp ik kp km kn ln rz it = wMo w ks ss n la su nm np ns sz tp tn pl rs rd lp ik kp km kn ln rz it := by
            rw [z_u_self, z_u_self, z_u_self]
          refine ⟨by omega, fun h5 => ?_, fun h5 => ?_⟩
          · refine ⟨by omega, fun h6 => ?_, fun h6 => ?_⟩
            · refine ⟨by omega, trivial, ?_, ew⟩
              show some (Sum.inl (z_u np (((k : Int) + -21 + -18 + -2) % 12) (np (((k : Int) + -21 + -18 + -2) % 12)) (((k : Int) + -21 + -18 + -2) % 12))) = _
              rw [z_u_self, show ((k : Int) + -21 + -18 + -2) % 12 = (k : Int) - 65 by omega]
              unfold zKv
              rw [if_neg (by omega), if_neg (by omega), if_neg (by omega), if_neg (by omega), if_neg (by omega), if_neg (by omega), if_pos (by omega)]
            · refine ⟨by omega, trivial, ?_, ew⟩
              show some (Sum.inl (z_u nm (((k : Int) + -21 + -18 + -2) % 12) (nm (((k : Int) + -21 + -18 + -2) % 12)) (((k : Int) + -21 + -18 + -2) % 12))) = _
              rw [z_u_self, show ((k : Int) + -21 + -18 + -2) % 12 = (k : Int) - 53 by omega]
              unfold zKv
              rw [if_neg (by omega), if_neg (by omega), if_neg (by omega), if_neg (by omega), if_neg (by omega), if_pos (by omega)]
          · refine ⟨by omega, trivial, ?_, ew⟩
            show some (Sum.inl (z_u su (((k : Int) + -21 + -18 + -2) % 12) (su (((k : Int) + -21 + -18 + -2) % 12)) (((k : Int) + -21 + -18 + -2) % 12))) = _
            rw [z_u_self, show ((k : Int) + -21 + -18 + -2) % 12 = (k : Int) - 41 by omega]
            unfold zKv
            rw [if_neg (by omega), if_neg (by omega), if_neg (by omega), if_neg (by omega), if_pos (by omega)]
      · refine ⟨by omega, fun q => ?_, fun q => absurd rfl q⟩
        refine ⟨by omega, by omega, by omega, trivial, ?_, ?_⟩
        · show some (Sum.inl (z_u la ((k : Int) + -21 + -18) (la ((k : Int) + -21 + -18)) ((k : Int) + -21 + -18))) = _
          rw [z_u_self, show (k : Int) + -21 + -18 = (k : Int) - 39 by omega]
          unfold zKv
          rw [if_neg (by omega), if_neg (by omega), if_neg (by omega), if_pos (by omega)]
        · show wMo w ks ss n (z_u la ((k : Int) + -21 + -18) (la ((k : Int) + -21 + -18))) su nm np ns sz tp tn pl rs rd lp ik kp km kn ln rz it = _
          rw [z_u_self]
    · refine ⟨by omega, ?_⟩
      refine ⟨by omega, fun q => ?_, fun q => absurd rfl q⟩
      refine ⟨by omega, by omega, ?_⟩
      refine ⟨by omega, fun q => ?_, fun q => absurd rfl q⟩
      refine ⟨by omega, by omega, ?_⟩
      have ew : wMo w (z_u ks (((k : Int) + -21) % 9) (ks (((k : Int) + -21) % 9))) (z_u ss (((k : Int) + -21) % 9) (ss (((k : Int) + -21) % 9))) n la su nm np ns sz tp tn pl rs rd lp ik kp km kn ln rz it = wMo w ks ss n la su nm np ns sz tp tn pl rs rd lp ik kp km kn ln rz it := by
        rw [z_u_self, z_u_self]
      refine ⟨by omega, fun h5 => ?_, fun h5 => ?_⟩
      · refine ⟨by omega, trivial, ?_, ew⟩
        show some (Sum.inl (z_u ss (((k : Int) + -21) % 9) (ss (((k : Int) + -21) % 9)) (((k : Int) + -21) % 9))) = _
        rw [z_u_self, show ((k : Int) + -21) % 9 = (k : Int) - 30 by omega]
        unfold zKv
        rw [if_neg (by omega), if_neg (by omega), if_pos (by omega)]
      · refine ⟨by omega, trivial, ?_, ew⟩
        show some (Sum.inl (z_u ks (((k : Int) + -21) % 9) (ks (((k : Int) + -21) % 9)) (((k : Int) + -21) % 9))) = _
        rw [z_u_self, show ((k : Int) + -21) % 9 = (k : Int) - 21 by omega]
        unfold zKv
        rw [if_neg (by omega), if_pos (by omega)]
  · refine ⟨by omega, fun q => ?_, fun q => absurd rfl q⟩
    refine ⟨by omega, by omega, by omega, trivial, ?_, ?_⟩
    · show some (Sum.inl (z_u w k (w k) k)) = _
      rw [z_u_self]
      unfold zKv
      rw [if_pos (by omega)]
    · show wMo (z_u w k (w k)) ks ss n la su nm np ns sz tp tn pl rs rd lp ik kp km kn ln rz it = _
      rw [z_u_self]
theorem c_Mo_carried1 {k : Nat} {x : Int} (hk : k < 185) :
    zMet m_Mo_carried [.inr (.inr 0), .inl (k : Int), .inl x, .inl 1] (wMo w ks ss n la su nm np ns sz tp tn pl rs rd lp ik kp km kn ln rz it) (fun v wd => (∃ y : Int, v = some (.inl y)) ∧ wd = wMo (zKu w 0 21 k x) (zKu ks 21 9 k x) (zKu ss 30 9 k x) n (zKu la 39 2 k x) (zKu su 41 12 k x) (zKu nm 53 12 k x) (zKu np 65 12 k x) (zKu ns 77 108 k x) sz tp tn pl rs rd lp ik kp km kn ln rz it) := by
  refine zMet.of (own := RX7) rfl (by decide +kernel) tk_Mo_carried fok_Mo cok_Mo (Nat.le_of_ble_eq_true rfl) (fun G hG => ?_)
  refine hG.1 [] 120 _ _ _ _ ?_
  refine ⟨by omega, fun h1 => ?_, fun h1 => ?_⟩
  · refine ⟨by omega, fun h2 => ?_, fun h2 => ?_⟩
    · refine ⟨by omega, fun h3 => ?_, fun h3 => ?_⟩
      · refine ⟨by omega, fun h4 => ?_, fun h4 => ?_⟩
        · refine ⟨by omega, fun q => absurd q (by omega), fun q => ?_⟩
          refine ⟨by omega, by omega, trivial, ⟨_, rfl⟩, ?_⟩
          show wMo w ks ss n la su nm np (z_u ns ((k : Int) + -21 + -18 + -2 + -36) x) sz tp tn pl rs rd lp ik kp km kn ln rz it = _
          rw [zKu_out (f := w) (o := 0) (n := 21) (x := x) (show ¬ (0 ≤ k ∧ k < 0 + 21) by omega), zKu_out (f := ks) (o := 21) (n := 9) (x := x) (show ¬ (21 ≤ k ∧ k < 21 + 9) by omega), zKu_out (f := ss) (o := 30) (n := 9) (x := x) (show ¬ (30 ≤ k ∧ k < 30 + 9) by omega), zKu_out (f := la) (o := 39) (n := 2) (x := x) (show ¬ (39 ≤ k ∧ k < 39 + 2) by omega), zKu_out (f := su) (o := 41) (n := 12) (x := x) (show ¬ (41 ≤ k ∧ k < 41 + 12) by omega), zKu_out (f := nm) (o := 53) (n := 12) (x := x) (show ¬ (53 ≤ k ∧ k < 53 + 12) by omega), zKu_out (f := np) (o := 65) (n := 12) (x := x) (show ¬ (65 ≤ k ∧ k < 65 + 12) by omega), zKu_in (f := ns) (o := 77) (n := 108) (x := x) (j := (k : Int) + -21 + -18 + -2 + -36) (by omega) (by omega)]
        · refine ⟨by omega, ?_⟩
          refine ⟨by omega, fun q => absurd q (by omega), fun q => ?_⟩
          refine ⟨by omega, fun h5 => ?_, fun h5 => ?_⟩
          · -- not sums
            refine ⟨by omega, by omega, ?_⟩
            refine ⟨by omega, fun q => absurd q (by omega), fun q => ?_⟩
            refine ⟨by omega, fun q => absurd q (by omega), fun q => ?_⟩
            refine ⟨by omega, fun h6 => ?_, fun h6 => ?_⟩
            · refine ⟨by omega, by omega, ?_⟩
              refine ⟨by omega, fun q => absurd q (by omega), fun q => ?_⟩
              refine ⟨by omega, fun q => absurd q (by omega), fun q => ?_⟩
              refine ⟨by omega, ?_⟩
              refine ⟨by omega, fun q => ?_, fun q => absurd q (by omega)⟩
              refine ⟨by omega, fun q => ?_, fun q => absurd q (by omega)⟩
              refine ⟨by omega, trivial, ⟨_, rfl⟩, ?_⟩
              show wMo w ks ss n la (z_u su (((k : Int) + -21 + -18 + -2) % 12) (su (((k : Int) + -21 + -18 + -2) % 12))) (z_u nm (((k : Int) + -21 + -18 + -2) % 12) (nm (((k : Int) + -21 + -18 + -2) % 12))) (z_u np (((k : Int) + -21 + -18 + -2) % 12) x) ns sz tp tn pl rs rd lp ik kp km kn ln rz it = _
              rw [z_u_self, z_u_self, zKu_out (f := w) (o := 0) (n := 21) (x := x) (show ¬ (0 ≤ k ∧ k < 0 + 21) by omega), zKu_out (f := ks) (o := 21) (n := 9) (x := x) (show ¬ (21 ≤ k ∧ k < 21 + 9) by omega), zKu_out (f := ss) (o := 30) (n := 9) (x := x) (show ¬ (30 ≤ k ∧ k < 30 + 9) by omega), zKu_out (f := la) (o := 39) (n := 2) (x := x) (show ¬ (39 ≤ k ∧ k < 39 + 2) by omega), zKu_out (f := su) (o := 41) (n := 12) (x := x) (show ¬ (41 ≤ k ∧ k < 41 + 12) by omega), zKu_out (f := nm) (o := 53) (n := 12) (x := x) (show ¬ (53 ≤ k ∧ k < 53 + 12) by omega), zKu_out (f := ns) (o := 77) (n := 108) (x := x) (show ¬ (77 ≤ k ∧ k < 77 + 108) by omega), zKu_in (f := np) (o := 65) (n := 12) (x := x) (j := ((k : Int) + -21 + -18 + -2) % 12) (by omega) (by omega)]
            · refine ⟨by omega, ?_⟩
              refine ⟨by omega, fun q => absurd q (by omega), fun q => ?_⟩
              refine ⟨by omega, fun q => ?_, fun q => absurd q (by omega)⟩
              refine ⟨by omega, by omega, ?_⟩
              refine ⟨by omega, fun q => ?_, fun q => absurd q (by omega)⟩
              refine ⟨by omega, fun q => absurd q (by omega), fun q => ?_⟩
              refine ⟨by omega, trivial, ⟨_, rfl⟩, ?_⟩
              show wMo w ks ss n la (z_u su (((k : Int) + -21 + -18 + -2) % 12) (su (((k : Int) + -21 + -18 + -2) % 12))) (z_u nm (((k : Int) + -21 + -18 + -2) % 12) x) (z_u np (((k : Int) + -21 + -18 + -2) % 12) (np (((k : Int) + -21 + -18 + -2) % 12))) ns sz tp tn pl rs rd lp ik kp km kn ln rz it = _
              rw [z_u_self, z_u_self, zKu_out (f := w) (o := 0) (n := 21) (x := x) (show ¬ (0 ≤ k ∧ k < 0 + 21) by omega), zKu_out (f := ks) (o := 21) (n := 9) (x := x) (show ¬ (21 ≤ k ∧ k < 21 + 9) by omega), zKu_out (f := ss) (o := 30) (n := 9) (x := x) (show ¬ (30 ≤ k ∧ k < 30 + 9) by omega), zKu_out (f := la) (o := 39) (n := 2) (x := x) (show ¬ (39 ≤ k ∧ k < 39 + 2) by omega), zKu_out (f := su) (o := 41) (n := 12) (x := x) (show ¬ (41 ≤ k ∧ k < 41 + 12) by omega), zKu_out (f := np) (o := 65) (n := 12) (x := x) (show ¬ (65 ≤ k ∧ k < 65 + 12) by omega), zKu_out (f := ns) (o := 77) (n := 108) (x := x) (show ¬ (77 ≤ k ∧ k < 77 + 108) by omega), zKu_in (f := nm) (o := 53) (n := 12) (x := x) (j := ((k : Int) + -21 + -18 + -2) % 12) (by omega) (by omega)]
          · refine ⟨by omega, ?_⟩
            refine ⟨by omega, fun q => absurd q (by omega), fun q => ?_⟩
            refine ⟨by omega, fun q => ?_, fun q => absurd q (by omega)⟩
            refine ⟨by omega, by omega, ?_⟩
            refine ⟨by omega, fun q => absurd q (by omega), fun q => ?_⟩
            refine ⟨by omega, fun q => ?_, fun q => absurd q (by omega)⟩
            refine ⟨by omega, by omega, ?_⟩
            refine ⟨by omega, fun q => absurd q (by omega), fun q => ?_⟩
            refine ⟨by omega, trivial, ⟨_, rfl⟩, ?_⟩
            show wMo w ks ss n la (z_u su (((k : Int) + -21 + -18 + -2) % 12) x) (z_u nm (((k : Int) + -21 + -18 + -2) % 12) (nm (((k : Int) + -21 + -18 + -2) % 12))) (z_u np (((k : Int) + -21 + -18 + -2) % 12) (np (((k : Int) + -21 + -18 + -2) % 12))) ns sz tp tn pl rs rd lp ik kp km kn ln rz it = _
            rw [z_u_self, z_u_self, zKu_out (f := w) (o := 0) (n := 21) (x := x) (show ¬ (0 ≤ k ∧ k < 0 + 21) by omega), zKu_out (f := ks) (o := 21) (n := 9) (x := x) (show ¬ (21 ≤ k ∧ k < 21 + 9) by omega), zKu_out (f := ss) (o := 30) (n := 9) (x := x) (show ¬ (30 ≤ k ∧ k < 30 + 9) by omega), zKu_out (f := la) (o := 39) (n := 2) (x := x) (show ¬ (39 ≤ k ∧ k < 39 + 2) by omega), zKu_out (f := nm) (o := 53) (n := 12) (x := x) (show ¬ (53 ≤ k ∧ k < 53 + 12) by omega), zKu_out (f := np) (o := 65) (n := 12) (x := x) (show ¬ (65 ≤ k ∧ k < 65 + 12) by omega), zKu_out (f := ns) (o := 77) (n := 108) (x := x) (show ¬ (77 ≤ k ∧ k < 77 + 108) by omega), zKu_in (f := su) (o := 41) (n := 12) (x := x) (j := ((k : Int) + -21 + -18 + -2) % 12) (by omega) (by omega)]
      · refine ⟨by omega, fun q => absurd q (by omega), fun q => ?_⟩
        refine ⟨by omega, by omega, trivial, ⟨_, rfl⟩, ?_⟩
        show wMo w ks ss n (z_u la ((k : Int) + -21 + -18) x) su nm np ns sz tp tn pl rs rd lp ik kp km kn ln rz it = _
        rw [zKu_out (f := w) (o := 0) (n := 21) (x := x) (show ¬ (0 ≤ k ∧ k < 0 + 21) by omega), zKu_out (f := ks) (o := 21) (n := 9) (x := x) (show ¬ (21 ≤ k ∧ k < 21 + 9) by omega), zKu_out (f := ss) (o := 30) (n := 9) (x := x) (show ¬ (30 ≤ k ∧ k < 30 + 9) by omega), zKu_out (f := su) (o := 41) (n := 12) (x := x) (show ¬ (41 ≤ k ∧ k < 41 + 12) by omega), zKu_out (f := nm) (o := 53) (n := 12) (x := x) (show ¬ (53 ≤ k ∧ k < 53 + 12) by omega), zKu_out (f := np) (o := 65) (n := 12) (x := x) (show ¬ (65 ≤ k ∧ k < 65 + 12) by omega), zKu_out (f := ns) (o := 77) (n := 108) (x := x) (show ¬ (77 ≤ k ∧ k < 77 + 108) by omega), zKu_in (f := la) (o := 39) (n := 2) (x := x) (j := (k : Int) + -21 + -18) (by omega) (by omega)]
    · refine ⟨by omega, ?_⟩
      refine ⟨by omega, fun q => absurd q (by omega), fun q => ?_⟩
      refine ⟨by omega, fun h5 => ?_, fun h5 => ?_⟩
      · refine ⟨by omega, by omega, ?_⟩
        refine ⟨by omega, fun q => absurd q (by omega), fun q => ?_⟩
        refine ⟨by omega, fun q => absurd q (by omega), fun q => ?_⟩
        refine ⟨by omega, ?_⟩
        refine ⟨by omega, fun q => ?_, fun q => absurd q (by omega)⟩
        refine ⟨by omega, trivial, ⟨_, rfl⟩, ?_⟩
        show wMo w (z_u ks (((k : Int) + -21) % 9) (ks (((k : Int) + -21) % 9))) (z_u ss (((k : Int) + -21) % 9) x) n la su nm np ns sz tp tn pl rs rd lp ik kp km kn ln rz it = _
        rw [z_u_self, zKu_out (f := w) (o := 0) (n := 21) (x := x) (show ¬ (0 ≤ k ∧ k < 0 + 21) by omega), zKu_out (f := ks) (o := 21) (n := 9) (x := x) (show ¬ (21 ≤ k ∧ k < 21 + 9) by omega), zKu_out (f := la) (o := 39) (n := 2) (x := x) (show ¬ (39 ≤ k ∧ k < 39 + 2) by omega), zKu_out (f := su) (o := 41) (n := 12) (x := x) (show ¬ (41 ≤ k ∧ k < 41 + 12) by omega), zKu_out (f := nm) (o := 53) (n := 12) (x := x) (show ¬ (53 ≤ k ∧ k < 53 + 12) by omega), zKu_out (f := np) (o := 65) (n := 12) (x := x) (show ¬ (65 ≤ k ∧ k < 65 + 12) by omega), zKu_out (f := ns) (o := 77) (n := 108) (x := x) (show ¬ (77 ≤ k ∧ k < 77 + 108) by omega), zKu_in (f := ss) (o := 30) (n := 9) (x := x) (j := ((k : Int) + -21) % 9) (by omega) (by omega)]
      · refine ⟨by omega, ?_⟩
        refine ⟨by omega, fun q => absurd q (by omega), fun q => ?_⟩
        refine ⟨by omega, fun q => ?_, fun q => absurd q (by omega)⟩
        refine ⟨by omega, by omega, ?_⟩
        refine ⟨by omega, fun q => absurd q (by omega), fun q => ?_⟩
        refine ⟨by omega, trivial, ⟨_, rfl⟩, ?_⟩
        show wMo w (z_u ks (((k : Int) + -21) % 9) x) (z_u ss (((k : Int) + -21) % 9) (ss (((k : Int) + -21) % 9))) n la su nm np ns sz tp tn pl rs rd lp ik kp km kn ln rz it = _
        rw [z_u_self, zKu_out (f := w) (o := 0) (n := 21) (x := x) (show ¬ (0 ≤ k ∧ k < 0 + 21) by omega), zKu_out (f := ss) (o := 30) (n := 9) (x := x) (show ¬ (30 ≤ k ∧ k < 30 + 9) by omega), zKu_out (f := la) (o := 39) (n := 2) (x := x) (show ¬ (39 ≤ k ∧ k < 39 + 2) by omega), zKu_out (f := su) (o := 41) (n := 12) (x := x) (show ¬ (41 ≤ k ∧ k < 41 + 12) by omega), zKu_out (f := nm) (o := 53) (n := 12) (x := x) (show ¬ (53 ≤ k ∧ k < 53 + 12) by omega), zKu_out (f := np) (o := 65) (n := 12) (x := x) (show ¬ (65 ≤ k ∧ k < 65 + 12) by omega), zKu_out (f := ns) (o := 77) (n := 108) (x := x) (show ¬ (77 ≤ k ∧ k < 77 + 108) by omega), zKu_in (f := ks) (o := 21) (n := 9) (x := x) (j := ((k : Int) + -21) % 9) (by omega) (by omega)]
  · refine ⟨by omega, fun q => absurd q (by omega), fun q => ?_⟩
    refine ⟨by omega, by omega, trivial, ⟨_, rfl⟩, ?_⟩
    show wMo (z_u w k x) ks ss n la su nm np ns sz tp tn pl rs rd lp ik kp km kn ln rz it = _
    rw [zKu_out (f := ks) (o := 21) (n := 9) (x := x) (show ¬ (21 ≤ k ∧ k < 21 + 9) by omega), zKu_out (f := ss) (o := 30) (n := 9) (x := x) (show ¬ (30 ≤ k ∧ k < 30 + 9) by omega), zKu_out (f := la) (o := 39) (n := 2) (x := x) (show ¬ (39 ≤ k ∧ k < 39 + 2) by omega), zKu_out (f := su) (o := 41) (n := 12) (x := x) (show ¬ (41 ≤ k ∧ k < 41 + 12) by omega), zKu_out (f := nm) (o := 53) (n := 12) (x := x) (show ¬ (53 ≤ k ∧ k < 53 + 12) by omega), zKu_out (f := np) (o := 65) (n := 12) (x := x) (show ¬ (65 ≤ k ∧ k < 65 + 12) by omega), zKu_out (f := ns) (o := 77) (n := 108) (x := x) (show ¬ (77 ≤ k ∧ k < 77 + 108) by omega), zKu_in (f := w) (o := 0) (n := 21) (x := x) (j := (k : Int)) (by omega) (by omega)]
theorem c_Mo_image :
    zMet m_Mo_image [.inr (.inr 0)] (wMo w ks ss n la su nm np ns sz tp tn pl rs rd lp ik kp km kn ln rz it) (fun v wd => v = some (.inl 1) ∧ wd = wMo w ks ss n la su nm np ns sz tp tn pl rs rd lp (1) (zMx (fun j => zKv w ks ss la su nm np ns j.toNat) kp 185) ((n : Int)) ((sz : Int)) ln rz it) := by
  refine zMet.of (own := RX7) rfl (by decide +kernel) tk_Mo_image fok_Mo cok_Mo (Nat.le_of_ble_eq_true rfl) (fun G hG => ?_)
  refine hG.1 [2] 80 _ _ _ _ ?_
  suffices L : G 2 [(0, .inr (.inr 0)), (1, .inl ((0 : Nat) : Int))] [] (wMo w ks ss n la su nm np ns sz tp tn pl rs rd lp ik (zMx (fun j => zKv w ks ss la su nm np ns j.toNat) kp 0) km kn ln rz it) by
    rw [zMx_0] at L; exact L
  refine z_up0 (n := 185) (P := fun i : Nat => G 2 [(0, .inr (.inr 0)), (1, .inl (i : Int))] [] (wMo w ks ss n la su nm np ns sz tp tn pl rs rd lp ik (zMx (fun j => zKv w ks ss la su nm np ns j.toNat) kp i) km kn ln rz it)) ?_ (fun i hi ih => ?_)
  · refine hG.1 [] 80 _ _ _ _ ?_
    refine ⟨by omega, fun q => ?_, fun q => absurd q (by omega)⟩
    exact ⟨Or.inr rfl, trivial, rfl, rfl⟩
  · rw [← zMx_put] at ih
    refine hG.1 [2] 80 _ _ _ _ ?_
    refine ⟨by omega, fun q => absurd q (by omega), fun q => ?_⟩
    refine hG.2.1 (c_Mo_carried0 (kp := zMx (fun j => zKv w ks ss la su nm np ns j.toNat) kp i) (k := i) (x := 0) hi) yv_Mo_carried lk_Mo_209 (by decide +kernel) rfl rfl [0, 1, 2, 3, 4, 5, 6, 7, 8, 9, 10, 11, 12, 13, 14] (by decide +kernel) rfl rfl rfl (Nat.le_of_ble_eq_true rfl) (fun v w2 hv hl2 => ?_)
    obtain ⟨rfl, rfl⟩ := hv
    change G _ _ _ (wMo w ks ss n la su nm np ns sz tp tn pl rs rd lp ik (zMx (fun j => zKv w ks ss la su nm np ns j.toNat) kp i) km kn ln rz it)
    refine hG.1 [2] 80 _ _ _ _ ?_
    exact ⟨by omega, ih⟩
theorem c_Mo_restore {m2 z2 : Nat} (hik : ik = 0 ∨ ik = 1) (hkm : km = (m2 : Int)) (hkn : kn = (z2 : Int)) :
    zMet m_Mo_restore [.inr (.inr 0)] (wMo w ks ss n la su nm np ns sz tp tn pl rs rd lp ik kp km kn ln rz it) (fun v wd => (ik = 0 ∧ v = some (.inl (-4)) ∧ wd = wMo w ks ss n la su nm np ns sz tp tn pl rs rd lp ik kp km kn ln rz it) ∨ (ik = 1 ∧ v = some (.inl 1) ∧ wd = wMo (zKx w 0 21 kp 185) (zKx ks 21 9 kp 185) (zKx ss 30 9 kp 185) (m2) (zKx la 39 2 kp 185) (zKx su 41 12 kp 185) (zKx nm 53 12 kp 185) (zKx np 65 12 kp 185) (zKx ns 77 108 kp 185) (z2) tp tn pl rs rd lp ik kp km kn ln rz it)) := by
  refine zMet.of (own := RX7) rfl (by decide +kernel) tk_Mo_restore fok_Mo cok_Mo (Nat.le_of_ble_eq_true rfl) (fun G hG => ?_)
  refine hG.1 [12] 80 _ _ _ _ ?_
  refine ⟨by omega, fun q => ?_, fun q => ?_⟩
  · suffices L : G 12 [(0, .inr (.inr 0)), (1, .inl ((0 : Nat) : Int))] [] (wMo (zKx w 0 21 kp 0) (zKx ks 21 9 kp 0) (zKx ss 30 9 kp 0) n (zKx la 39 2 kp 0) (zKx su 41 12 kp 0) (zKx nm 53 12 kp 0) (zKx np 65 12 kp 0) (zKx ns 77 108 kp 0) sz tp tn pl rs rd lp ik kp km kn ln rz it) by
      rw [zKx_0, zKx_0, zKx_0, zKx_0, zKx_0, zKx_0, zKx_0, zKx_0] at L; exact L
    refine z_up0 (n := 185) (P := fun i : Nat => G 12 [(0, .inr (.inr 0)), (1, .inl (i : Int))] [] (wMo (zKx w 0 21 kp i) (zKx ks 21 9 kp i) (zKx ss 30 9 kp i) n (zKx la 39 2 kp i) (zKx su 41 12 kp i) (zKx nm 53 12 kp i) (zKx np 65 12 kp i) (zKx ns 77 108 kp i) sz tp tn pl rs rd lp ik kp km kn ln rz it)) ?_ (fun i hi ih => ?_)
    · subst hkm
      subst hkn
      refine hG.1 [] 80 _ _ _ _ ?_
      refine ⟨by omega, fun q1 => ?_, fun q1 => absurd q1 (by omega)⟩
      exact ⟨trivial, Or.inr ⟨by omega, rfl, rfl⟩⟩
    · rw [← zKx_put w 0 21 kp i, ← zKx_put ks 21 9 kp i, ← zKx_put ss 30 9 kp i, ← zKx_put la 39 2 kp i, ← zKx_put su 41 12 kp i, ← zKx_put nm 53 12 kp i, ← zKx_put np 65 12 kp i, ← zKx_put ns 77 108 kp i] at ih
      refine hG.1 [12] 80 _ _ _ _ ?_
      refine ⟨by omega, fun q1 => absurd q1 (by omega), fun q1 => ?_⟩
      refine ⟨by omega, ?_⟩
      refine hG.2.1 (c_Mo_carried1 (w := zKx w 0 21 kp i) (ks := zKx ks 21 9 kp i) (ss := zKx ss 30 9 kp i) (la := zKx la 39 2 kp i) (su := zKx su 41 12 kp i) (nm := zKx nm 53 12 kp i) (np := zKx np 65 12 kp i) (ns := zKx ns 77 108 kp i) (k := i) (x := kp i) hi) yv_Mo_carried lk_Mo_209 (by decide +kernel) rfl rfl [0, 1, 2, 3, 4, 5, 6, 7, 8, 9, 10, 11, 12, 13, 14] (by decide +kernel) rfl rfl rfl (Nat.le_of_ble_eq_true rfl) (fun v w2 hv hl2 => ?_)
      obtain ⟨⟨y, rfl⟩, rfl⟩ := hv
      change G _ _ _ (wMo (zKu (zKx w 0 21 kp i) 0 21 i (kp i)) (zKu (zKx ks 21 9 kp i) 21 9 i (kp i)) (zKu (zKx ss 30 9 kp i) 30 9 i (kp i)) n (zKu (zKx la 39 2 kp i) 39 2 i (kp i)) (zKu (zKx su 41 12 kp i) 41 12 i (kp i)) (zKu (zKx nm 53 12 kp i) 53 12 i (kp i)) (zKu (zKx np 65 12 kp i) 65 12 i (kp i)) (zKu (zKx ns 77 108 kp i) 77 108 i (kp i)) sz tp tn pl rs rd lp ik kp km kn ln rz it)
      refine hG.1 [12] 80 _ _ _ _ ?_
      exact ih
  · exact ⟨trivial, Or.inl ⟨q, rfl, rfl⟩⟩
end M18
