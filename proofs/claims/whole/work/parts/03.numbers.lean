/-! WHAT THE ABSTRACT MACHINE SAYS OF THE MACHINE -/
def z_nest : List Cond := [Jvm.Cond.methodLinkNest "FarthestPays" (11 : Nat) ({ cls := "FarthestPays$Table", name := "<init>", desc := "()V" } : Jvm.MethodName) "FarthestPays", Jvm.Cond.methodLinkNest "FarthestPays$Table" (11 : Nat) ({ cls := "FarthestPays$Supper", name := "<init>", desc := "()V" } : Jvm.MethodName) "FarthestPays", Jvm.Cond.methodLinkNest "FarthestPays$Table" (20 : Nat) ({ cls := "FarthestPays$Company", name := "<init>", desc := "()V" } : Jvm.MethodName) "FarthestPays", Jvm.Cond.methodLinkNest "FarthestPays$Nights" (25 : Nat) ({ cls := "FarthestPays$Company", name := "<init>", desc := "()V" } : Jvm.MethodName) "FarthestPays", Jvm.Cond.fieldLinkNest "FarthestPays" (55 : Nat) "FarthestPays$Table" "supper" "LFarthestPays$Supper;" "FarthestPays", Jvm.Cond.fieldLinkNest "FarthestPays" (66 : Nat) "FarthestPays$Table" "company" "LFarthestPays$Company;" "FarthestPays", Jvm.Cond.fieldLinkNest "FarthestPays" (136 : Nat) "FarthestPays$Table" "nights" "LFarthestPays$Nights;" "FarthestPays", Jvm.Cond.methodLinkNest "FarthestPays" (25 : Nat) ({ cls := "FarthestPays$Tape", name := "<init>", desc := "()V" } : Jvm.MethodName) "FarthestPays", Jvm.Cond.methodLinkNest "FarthestPays" (32 : Nat) ({ cls := "FarthestPays$Supper", name := "<init>", desc := "()V" } : Jvm.MethodName) "FarthestPays", Jvm.Cond.methodLinkNest "FarthestPays" (39 : Nat) ({ cls := "FarthestPays$Company", name := "<init>", desc := "()V" } : Jvm.MethodName) "FarthestPays", Jvm.Cond.methodLinkNest "FarthestPays" (50 : Nat) ({ cls := "FarthestPays$Sheet", name := "<init>", desc := "()V" } : Jvm.MethodName) "FarthestPays", Jvm.Cond.methodLinkNest "FarthestPays$Supper" (15 : Nat) ({ cls := "FarthestPays", name := "isSum", desc := "(I)Z" } : Jvm.MethodName) "FarthestPays"]
def z_N (U : State) : Prop := ∀ w ∈ z_nest, va_Nw w U
theorem z_N_same {u U : State} (h : u.vm = U.vm) (hN : z_N u) : z_N U := by
  intro w hw
  have h1 := hN w hw
  simp only [z_nest, List.mem_cons, List.not_mem_nil, or_false] at hw
  rcases hw with rfl | rfl | rfl | rfl | rfl | rfl | rfl | rfl | rfl | rfl | rfl | rfl <;> exact va_Nw.same rfl h h1
theorem z_N_warm {s U : State} (hW : s.WarmedH U.vm) (hN : z_N s) : z_N U := by
  intro w hw
  have h1 := hN w hw
  simp only [z_nest, List.mem_cons, List.not_mem_nil, or_false] at hw
  rcases hw with rfl | rfl | rfl | rfl | rfl | rfl | rfl | rfl | rfl | rfl | rfl | rfl <;> first | exact va_Nw.warmF hW h1 | exact va_Nw.warmM hW h1

def z_v (ad : Nat → Nat) : zV → Value
  | .inl x => .int (Int32.ofInt x)
  | .inr (.inl x) => .long (Int64.ofInt x)
  | .inr (.inr k) => .ref (ad k)
def z_e (ad : Nat → Nat) (cA : Nat → ClassId) : zC → va_E
  | .inl o => .inr (o.1, o.2.map (z_v ad))
  | .inr (_, (n, .inl f)) => .inl (cA 0, (n, .inl (fun j : Nat => Int32.ofInt (f (j : Int)))))
  | .inr (_, (n, .inr (.inl f))) => .inl (cA 1, (n, .inr (.inl (fun j : Nat => Int64.ofInt (f (j : Int))))))
  | .inr (t, (n, .inr (.inr f))) => .inl (cA (2 + t), (n, .inr (.inr (.inr (.inr (fun j : Nat => some (ad (f (j : Int)))))))))
def z_w (ad : Nat → Nat) (cA : Nat → ClassId) (ws : zW) : va_W := ws.mapIdx (fun k c => (ad k, z_e ad cA c))
def z_t (cA : Nat → ClassId) : List (ClassId × FieldType) := [(cA 0, .int), (cA 1, .long), (cA 2, .object RX0), (cA 3, .object RX2)]
def z_l (ad : Nat → Nat) (ls : zL) : List (Nat × Value) := ls.map (fun q => (q.1, z_v ad q.2))
theorem z_w_get (ad : Nat → Nat) (cA : Nat → ClassId) (ws : zW) (k : Nat) : (z_w ad cA ws)[k]? = (ws[k]?).map (fun c => (ad k, z_e ad cA c)) := by
  simp [z_w, List.getElem?_mapIdx]
theorem z_w_at {ad : Nat → Nat} {cA : Nat → ClassId} {ws : zW} {k : Nat} {c : zC} (h : z_g ws k = some c) : (z_w ad cA ws)[k]? = some (ad k, z_e ad cA c) := by
  rw [z_w_get, ← z_g_eq, h]; rfl
theorem z_w_set (ad : Nat → Nat) (cA : Nat → ClassId) (ws : zW) (k : Nat) (c : zC) : z_w ad cA (z_s ws k c) = (z_w ad cA ws).set k (ad k, z_e ad cA c) := by
  rw [z_s_eq]; unfold z_w; rw [List.mapIdx_set]
theorem z_w_len (ad : Nat → Nat) (cA : Nat → ClassId) (ws : zW) : (z_w ad cA ws).length = ws.length := by simp [z_w]
theorem z_s_len {α : Type} (ws : List α) (k : Nat) (c : α) : (z_s ws k c).length = ws.length := by rw [z_s_eq]; simp
theorem z_D {ad : Nat → Nat} {cA : Nat → ClassId} {A : Nat → Prop} {ws : zW} {n0 : Nat} (hl : ws.length = n0) (hi : ∀ i j : Nat, i < n0 → j < n0 → ad i = ad j → i = j) (hA : ∀ k : Nat, k < n0 → A (ad k)) : va_D A (z_w ad cA ws) := by
  have key : ∀ (k : Nat) (q : Nat × va_E), (z_w ad cA ws)[k]? = some q → k < n0 ∧ q.1 = ad k := by
    intro k q hq
    rw [z_w_get] at hq
    cases hc : ws[k]? with
    | none => rw [hc] at hq; cases hq
    | some c =>
      rw [hc] at hq
      have hk := (List.getElem?_eq_some_iff.mp hc).1
      have := Option.some.inj hq
      subst this
      exact ⟨hl ▸ hk, rfl⟩
  refine ⟨fun i j p q hp hq h => ?_, fun k q hq => ?_⟩
  · obtain ⟨a1, a2⟩ := key i p hp
    obtain ⟨b1, b2⟩ := key j q hq
    exact hi i j a1 b1 (by rw [← a2, ← b2]; exact h)
  · obtain ⟨a1, a2⟩ := key k q hq
    rw [a2]; exact hA k a1
theorem z_has_at {ad : Nat → Nat} {ls : zL} {ls' : Array Slot} {nL i : Nat} {v : zV} (h : lv_has ls' nL (z_l ad ls)) (ha : z_a ls i = some v) : ls'[i]? = some (.val (z_v ad v)) :=
  h.2.2 (i, z_v ad v) (List.mem_map.mpr ⟨(i, v), z_a_mem ha, rfl⟩)
theorem z_has_sub {ls' : Array Slot} {nL : Nat} {l l' : List (Nat × Value)} (hs : ∀ q ∈ l', q ∈ l) (h : lv_has ls' nL l) : lv_has ls' nL l' := ⟨h.1, h.2.1, fun q hq => h.2.2 q (hs q hq)⟩
theorem z_cat (ad : Nat → Nat) (v : zV) : ((z_v ad v).category == 2) = z_isL v := by
  rcases v with x | x | x <;> rfl
theorem z_beq (a b : Nat) : (a == b) = Nat.beq a b := by
  rw [Bool.eq_iff_iff]
  constructor
  · intro h; rw [eq_of_beq h]; exact Nat.beq_refl b
  · intro h; rw [Nat.eq_of_beq_eq_true h]; exact beq_self_eq_true b
theorem z_put1 {ad : Nat → Nat} {ls : zL} {i : Nat} {v : zV} (hv : z_isL v = false) : ∀ q ∈ z_l ad (z_lput i v ls), q ∈ (i, z_v ad v) :: (z_l ad ls).filter (fun q => !(q.1 == i) && !(q.1 + 1 == i && q.2.category == 2)) := by
  intro q hq
  obtain ⟨u, hu, rfl⟩ := List.mem_map.mp hq
  rcases z_lput_mem hu with rfl | ⟨h1, h2⟩
  · exact List.mem_cons_self
  · refine List.mem_cons_of_mem _ (List.mem_filter.mpr ⟨List.mem_map.mpr ⟨u, h1, rfl⟩, ?_⟩)
    dsimp only
    rw [z_cat]
    simp only [z_clash, hv, Bool.or_eq_false_iff, Bool.false_and, and_true] at h2
    have e1 : (u.1 == i) = false := by rw [z_beq]; exact h2.1
    have e2 : (u.1 + 1 == i && z_isL u.2) = false := by rw [z_beq]; exact h2.2
    rw [e1, e2]; rfl
theorem z_put2 {ad : Nat → Nat} {ls : zL} {i : Nat} {v : zV} (hv : z_isL v = true) : ∀ q ∈ z_l ad (z_lput i v ls), q ∈ (i, z_v ad v) :: (z_l ad ls).filter (fun q => !(q.1 == i) && (!(q.1 == i + 1) && !(q.1 + 1 == i && q.2.category == 2))) := by
  intro q hq
  obtain ⟨u, hu, rfl⟩ := List.mem_map.mp hq
  rcases z_lput_mem hu with rfl | ⟨h1, h2⟩
  · exact List.mem_cons_self
  · refine List.mem_cons_of_mem _ (List.mem_filter.mpr ⟨List.mem_map.mpr ⟨u, h1, rfl⟩, ?_⟩)
    dsimp only
    rw [z_cat]
    simp only [z_clash, hv, Bool.or_eq_false_iff, Bool.true_and] at h2
    have e1 : (u.1 == i) = false := by rw [z_beq]; exact h2.1
    have e2 : (u.1 + 1 == i && z_isL u.2) = false := by rw [z_beq]; exact h2.2.1
    have e3 : (u.1 == i + 1) = false := by rw [z_beq]; exact h2.2.2
    rw [e1, e2, e3]; rfl
-- numbers
theorem z_R {x : Int} (h : -2147483648 ≤ x ∧ x ≤ 2147483647) : (Int32.ofInt x).toInt = x := Int32.toInt_ofInt_of_le (by omega) (by omega)
theorem z_Q {x : Int} (h : -9223372036854775808 ≤ x ∧ x ≤ 9223372036854775807) : (Int64.ofInt x).toInt = x := Int64.toInt_ofInt_of_le (by omega) (by omega)
theorem z_req {x y : Int} (hx : -2147483648 ≤ x ∧ x ≤ 2147483647) (hy : -2147483648 ≤ y ∧ y ≤ 2147483647) : Int32.ofInt x = Int32.ofInt y ↔ x = y := by
  rw [← Int32.toInt_inj, z_R hx, z_R hy]
theorem z_rlt {x y : Int} (hx : -2147483648 ≤ x ∧ x ≤ 2147483647) (hy : -2147483648 ≤ y ∧ y ≤ 2147483647) : Int32.ofInt x < Int32.ofInt y ↔ x < y := by
  rw [Int32.lt_iff_toInt_lt, z_R hx, z_R hy]
theorem z_rle {x y : Int} (hx : -2147483648 ≤ x ∧ x ≤ 2147483647) (hy : -2147483648 ≤ y ∧ y ≤ 2147483647) : Int32.ofInt x ≤ Int32.ofInt y ↔ x ≤ y := by
  rw [Int32.le_iff_toInt_le, z_R hx, z_R hy]
theorem z_vin {i : Int} {n : Nat} (h : 0 ≤ i ∧ i < (n : Int) ∧ i ≤ 2147483647) : vp_in (Int32.ofInt i) n := by
  rw [vp_in_iff, z_R (by omega)]; exact ⟨h.1, h.2.1⟩
theorem z_cl {i : Int} {n : Nat} (h : 0 ≤ i ∧ i < (n : Int) ∧ i ≤ 2147483647) : (((Int32.ofInt i).toNatClampNeg : Nat) : Int) = i := by
  have : (Int32.ofInt i).toNatClampNeg = (Int32.ofInt i).toInt.toNat := rfl
  rw [this, z_R (by omega)]; exact Int.toNat_of_nonneg h.1
theorem z_upd {f : Int → Int} {i v : Int} {n : Nat} (h : 0 ≤ i ∧ i < (n : Int) ∧ i ≤ 2147483647) : upd (fun j : Nat => Int32.ofInt (f (j : Int))) (Int32.ofInt i).toNatClampNeg (Int32.ofInt v) = (fun j : Nat => Int32.ofInt (z_u f i v (j : Int))) := by
  funext j
  have e := z_cl h
  unfold upd z_u
  by_cases hj : j = (Int32.ofInt i).toNatClampNeg
  · rw [if_pos hj, if_pos (by rw [hj]; exact e)]
  · rw [if_neg hj, if_neg (fun q => hj (by omega))]
theorem z_updL {f : Int → Int} {i v : Int} {n : Nat} (h : 0 ≤ i ∧ i < (n : Int) ∧ i ≤ 2147483647) : vp_updL (fun j : Nat => Int64.ofInt (f (j : Int))) (Int32.ofInt i).toNatClampNeg (Int64.ofInt v) = (fun j : Nat => Int64.ofInt (z_u f i v (j : Int))) := by
  funext j
  have e := z_cl h
  unfold vp_updL z_u
  by_cases hj : j = (Int32.ofInt i).toNatClampNeg
  · rw [if_pos hj, if_pos (by rw [hj]; exact e)]
  · rw [if_neg hj, if_neg (fun q => hj (by omega))]
theorem z_div {x y : Int} (hx : 0 ≤ x ∧ x ≤ 2147483647) (hy : 0 < y ∧ y ≤ 2147483647) : Int32.ofInt x / Int32.ofInt y = Int32.ofInt (x / y) := by
  have h0 : (0 : Int) ≤ x / y := Int.ediv_nonneg hx.1 (by omega)
  have h1 : x / y ≤ x := Int.ediv_le_self _ hx.1
  have hne : Int32.ofInt y ≠ -1 := fun q => by
    have := congrArg Int32.toInt q
    rw [z_R (by omega)] at this
    have e : (-1 : Int32).toInt = -1 := by decide
    omega
  rw [← Int32.toInt_inj, Int32.toInt_div_of_ne_right _ _ hne, z_R (by omega), z_R (by omega), z_R (by omega), Int.tdiv_eq_ediv_of_nonneg hx.1]
theorem z_mod {x y : Int} (hx : 0 ≤ x ∧ x ≤ 2147483647) (hy : 0 < y ∧ y ≤ 2147483647) : Int32.ofInt x - Int32.ofInt x / Int32.ofInt y * Int32.ofInt y = Int32.ofInt (x % y) := by
  rw [z_div hx hy, ← Int32.ofInt_mul, ← Int32.ofInt_sub]
  congr 1
  have := Int.mul_ediv_add_emod x y
  rw [Int.mul_comm] at this
  omega
theorem z_divL {x y : Int} (hx : 0 ≤ x ∧ x ≤ 9223372036854775807) (hy : 0 < y ∧ y ≤ 9223372036854775807) : Int64.ofInt x / Int64.ofInt y = Int64.ofInt (x / y) := by
  have h0 : (0 : Int) ≤ x / y := Int.ediv_nonneg hx.1 (by omega)
  have h1 : x / y ≤ x := Int.ediv_le_self _ hx.1
  have hne : Int64.ofInt y ≠ -1 := fun q => by
    have := congrArg Int64.toInt q
    rw [z_Q (by omega)] at this
    have e : (-1 : Int64).toInt = -1 := by decide
    omega
  rw [← Int64.toInt_inj, Int64.toInt_div_of_ne_right _ _ hne, z_Q (by omega), z_Q (by omega), z_Q (by omega), Int.tdiv_eq_ediv_of_nonneg hx.1]
theorem z_modL {x y : Int} (hx : 0 ≤ x ∧ x ≤ 9223372036854775807) (hy : 0 < y ∧ y ≤ 9223372036854775807) : Int64.ofInt x - Int64.ofInt x / Int64.ofInt y * Int64.ofInt y = Int64.ofInt (x % y) := by
  rw [z_divL hx hy, ← Int64.ofInt_mul, ← Int64.ofInt_sub]
  congr 1
  have := Int.mul_ediv_add_emod x y
  rw [Int.mul_comm] at this
  omega
theorem z_nat {y : Int} (h : 0 ≤ y) : ∃ k : Nat, y = (k : Int) := ⟨y.toNat, (Int.toNat_of_nonneg h).symm⟩
theorem z_sml : ∀ k, k < 32 → ((Int32.ofInt (k : Nat) &&& 31).toBitVec.smod 32) = BitVec.ofNat 32 k := by decide +kernel
theorem z_smL : ∀ k, k < 64 → (((Int32.ofInt (k : Nat)).toInt64 &&& 63).toBitVec.smod 64) = BitVec.ofNat 64 k := by decide +kernel
theorem z_shl {x y : Int} (hy : 0 ≤ y ∧ y < 32) : Int32.ofInt x <<< (Int32.ofInt y &&& 31) = Int32.ofInt (x * 2 ^ y.toNat) := by
  obtain ⟨k, rfl⟩ := z_nat hy.1
  have hk : k < 32 := by omega
  apply Int32.toBitVec_inj.mp
  rw [Int32.toBitVec_shiftLeft, z_sml k hk]
  rw [Int32.ofInt_mul]
  rw [Int32.toBitVec_mul]
  have e2 : (Int32.ofInt (2 ^ (k : Int).toNat)).toBitVec = BitVec.twoPow 32 k := by
    rw [Int.toNat_natCast]
    clear hy
    revert hk; revert k; decide +kernel
  rw [e2, BitVec.mul_twoPow_eq_shiftLeft]
  rw [BitVec.shiftLeft_eq', BitVec.toNat_ofNat, Nat.mod_eq_of_lt (by omega)]
theorem z_shlL {x y : Int} (hy : 0 ≤ y ∧ y < 64) : Int64.ofInt x <<< ((Int32.ofInt y).toInt64 &&& 63) = Int64.ofInt ((x * 2 ^ y.toNat).bmod 18446744073709551616) := by
  obtain ⟨k, rfl⟩ := z_nat hy.1
  have hk : k < 64 := by omega
  have e0 : Int64.ofInt ((x * 2 ^ (k : Int).toNat).bmod 18446744073709551616) = Int64.ofInt (x * 2 ^ (k : Int).toNat) := by
    rw [← Int64.toInt_inj, Int64.toInt_ofInt, Int64.toInt_ofInt]
    exact Int.bmod_bmod
  rw [e0]
  apply Int64.toBitVec_inj.mp
  rw [Int64.toBitVec_shiftLeft, z_smL k hk]
  rw [Int64.ofInt_mul]
  rw [Int64.toBitVec_mul]
  have e2 : (Int64.ofInt (2 ^ (k : Int).toNat)).toBitVec = BitVec.twoPow 64 k := by
    rw [Int.toNat_natCast]
    clear hy e0
    revert hk; revert k; decide +kernel
  rw [e2, BitVec.mul_twoPow_eq_shiftLeft]
  rw [BitVec.shiftLeft_eq', BitVec.toNat_ofNat, Nat.mod_eq_of_lt (by omega)]
theorem z_shr {x y : Int} (hx : -2147483648 ≤ x ∧ x ≤ 2147483647) (hy : 0 ≤ y ∧ y < 32) : Int32.ofInt x >>> (Int32.ofInt y &&& 31) = Int32.ofInt (x / 2 ^ y.toNat) := by
  obtain ⟨k, rfl⟩ := z_nat hy.1
  have hk : k < 32 := by omega
  apply Int32.toInt_inj.mp
  have h1 : (Int32.ofInt x >>> (Int32.ofInt (k : Int) &&& 31)).toInt = (Int32.ofInt x).toInt >>> k := by
    apply pk_shr
    have := z_sml k hk
    rw [this, BitVec.toNat_ofNat, Nat.mod_eq_of_lt (by omega)]
  rw [h1, z_R hx, Int.toNat_natCast, Int.shiftRight_eq_div_pow]
  have hp : (0 : Int) < 2 ^ k := by exact Int.pow_pos (by omega)
  have b1 : x / 2 ^ k ≤ 2147483647 := by
    by_cases h0 : 0 ≤ x
    · have := Int.ediv_le_self (2 ^ k : Int) h0; omega
    · have := Int.ediv_neg_of_neg_of_pos (by omega : x < 0) hp; omega
  have b2 : -2147483648 ≤ x / 2 ^ k := by
    have := Int.le_ediv_of_mul_le hp (a := -2147483648) (b := x) (by
      have : (1 : Int) ≤ 2 ^ k := hp
      have h3 : (-2147483648 : Int) * 2 ^ k ≤ -2147483648 * 1 := Int.mul_le_mul_of_nonpos_left (by omega) this
      omega)
    exact this
  rw [z_R ⟨b2, b1⟩, Int.natCast_pow]
  rfl
theorem z_shrL {x y : Int} (hx : -9223372036854775808 ≤ x ∧ x ≤ 9223372036854775807) (hy : 0 ≤ y ∧ y < 64) : Int64.ofInt x >>> ((Int32.ofInt y).toInt64 &&& 63) = Int64.ofInt (x / 2 ^ y.toNat) := by
  obtain ⟨k, rfl⟩ := z_nat hy.1
  have hk : k < 64 := by omega
  apply Int64.toInt_inj.mp
  have h1 : (Int64.ofInt x >>> ((Int32.ofInt (k : Int)).toInt64 &&& 63)).toInt = (Int64.ofInt x).toInt >>> k := by
    show ((Int64.ofInt x).toBitVec.sshiftRight' _).toInt = _
    rw [z_smL k hk]
    rw [BitVec.sshiftRight_eq', BitVec.toInt_sshiftRight, BitVec.toNat_ofNat, Nat.mod_eq_of_lt (by omega)]
    rfl
  rw [h1, z_Q hx, Int.toNat_natCast, Int.shiftRight_eq_div_pow]
  have hp : (0 : Int) < 2 ^ k := by exact Int.pow_pos (by omega)
  have b1 : x / 2 ^ k ≤ 9223372036854775807 := by
    by_cases h0 : 0 ≤ x
    · have := Int.ediv_le_self (2 ^ k : Int) h0; omega
    · have := Int.ediv_neg_of_neg_of_pos (by omega : x < 0) hp; omega
  have b2 : -9223372036854775808 ≤ x / 2 ^ k := by
    have := Int.le_ediv_of_mul_le hp (a := -9223372036854775808) (b := x) (by
      have : (1 : Int) ≤ 2 ^ k := hp
      have h3 : (-9223372036854775808 : Int) * 2 ^ k ≤ -9223372036854775808 * 1 := Int.mul_le_mul_of_nonpos_left (by omega) this
      omega)
    exact this
  rw [z_Q ⟨b2, b1⟩, Int.natCast_pow]
  rfl
theorem z_i2l {x : Int} (hx : -2147483648 ≤ x ∧ x ≤ 2147483647) : (Int32.ofInt x).toInt64 = Int64.ofInt x := by
  rw [← Int64.toInt_inj, Int32.toInt_toInt64, z_R hx, z_Q (by omega)]
theorem z_i2s (x : Int) : (Int32.ofInt x).toInt16.toInt32 = Int32.ofInt (x.bmod 65536) := by
  rw [Int32.toInt16_ofInt, ← Int32.ofInt_int16ToInt, Int16.toInt_ofInt]
theorem z_lcmp {x y : Int} (hx : -9223372036854775808 ≤ x ∧ x ≤ 9223372036854775807) (hy : -9223372036854775808 ≤ y ∧ y ≤ 9223372036854775807) : lg_cmp (Int64.ofInt x) (Int64.ofInt y) = Int32.ofInt (if x < y then -1 else if x = y then 0 else 1) := by
  have e1 : (Int64.ofInt x < Int64.ofInt y) ↔ x < y := by rw [Int64.lt_iff_toInt_lt, z_Q hx, z_Q hy]
  have e2 : (Int64.ofInt x = Int64.ofInt y) ↔ x = y := by rw [← Int64.toInt_inj, z_Q hx, z_Q hy]
  have e3 : (Int64.ofInt y < Int64.ofInt x) ↔ y < x := by rw [Int64.lt_iff_toInt_lt, z_Q hx, z_Q hy]
  unfold lg_cmp
  simp only [e1, e2, e3]
  repeat' split
  all_goals first | rfl | omega
