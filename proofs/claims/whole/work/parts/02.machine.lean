/-! THE ABSTRACT MACHINE: numbers are mathematical integers, references are places in a list of cells. -/
abbrev zV : Type := Int ⊕ (Int ⊕ Nat)
abbrev zF : Type := (Int → Int) ⊕ ((Int → Int) ⊕ (Int → Nat))
abbrev zC : Type := (Nat × List zV) ⊕ (Nat × (Nat × zF))
abbrev zL : Type := List (Nat × zV)
abbrev zW : Type := List zC
abbrev zI : Type := Instr × (Nat × List Nat)
abbrev zG : Type := Nat → zL → List zV → zW → Prop
def z_a {α : Type} : List (Nat × α) → Nat → Option α
  | [], _ => none
  | q :: l, k => bif Nat.beq q.1 k then some q.2 else z_a l k
def z_g {α : Type} : List α → Nat → Option α
  | [], _ => none
  | a :: _, 0 => some a
  | _ :: l, k + 1 => z_g l k
def z_s {α : Type} : List α → Nat → α → List α
  | [], _, _ => []
  | _ :: l, 0, v => v :: l
  | a :: l, k + 1, v => a :: z_s l k v
theorem z_g_eq {α : Type} : ∀ (l : List α) (k : Nat), z_g l k = l[k]?
  | [], k => by simp [z_g]
  | a :: l, 0 => by simp [z_g]
  | a :: l, k + 1 => by simp [z_g, z_g_eq l k]
theorem z_s_eq {α : Type} : ∀ (l : List α) (k : Nat) (v : α), z_s l k v = l.set k v
  | [], k, v => by simp [z_s]
  | a :: l, 0, v => by simp [z_s]
  | a :: l, k + 1, v => by simp [z_s, z_s_eq l k v]
theorem z_a_mem {α : Type} : ∀ {l : List (Nat × α)} {k : Nat} {v : α}, z_a l k = some v → (k, v) ∈ l
  | [], k, v, h => by simp [z_a] at h
  | q :: l, k, v, h => by
    rw [z_a] at h
    cases hb : Nat.beq q.1 k with
    | true =>
      rw [hb] at h
      have e1 := Nat.eq_of_beq_eq_true hb
      have e2 : q.2 = v := by simpa using h
      have : q = (k, v) := by rw [← e1, ← e2]
      rw [← this]
      exact List.mem_cons_self
    | false =>
      rw [hb] at h
      exact List.mem_cons_of_mem _ (z_a_mem (by simpa using h))
def z_isL : zV → Bool
  | .inr (.inl _) => true
  | _ => false
def z_clash (j : Nat) (u : zV) (i : Nat) (v : zV) : Bool := Nat.beq j i || ((Nat.beq (j + 1) i && z_isL u) || (z_isL v && Nat.beq j (i + 1)))
def z_ldrop (i : Nat) (v : zV) : zL → zL
  | [] => []
  | q :: l => bif z_clash q.1 q.2 i v then z_ldrop i v l else q :: z_ldrop i v l
def z_lput (i : Nat) (v : zV) : zL → zL
  | [] => [(i, v)]
  | q :: l => bif Nat.beq q.1 i then (i, v) :: z_ldrop i v l else bif z_clash q.1 q.2 i v then z_lput i v l else q :: z_lput i v l
theorem z_ldrop_mem {i : Nat} {v : zV} {q : Nat × zV} : ∀ {l : zL}, q ∈ z_ldrop i v l → q ∈ l ∧ z_clash q.1 q.2 i v = false
  | [], h => by simp [z_ldrop] at h
  | p :: l, h => by
    rw [z_ldrop] at h
    cases hb : z_clash p.1 p.2 i v with
    | true => rw [hb] at h; have := z_ldrop_mem (l := l) h; exact ⟨List.mem_cons_of_mem _ this.1, this.2⟩
    | false =>
      rw [hb] at h
      rcases List.mem_cons.mp h with rfl | h
      · exact ⟨List.mem_cons_self, hb⟩
      · have := z_ldrop_mem (l := l) h; exact ⟨List.mem_cons_of_mem _ this.1, this.2⟩
theorem z_lput_mem {i : Nat} {v : zV} {q : Nat × zV} : ∀ {l : zL}, q ∈ z_lput i v l → q = (i, v) ∨ (q ∈ l ∧ z_clash q.1 q.2 i v = false)
  | [], h => by simp [z_lput] at h; exact Or.inl h
  | p :: l, h => by
    rw [z_lput] at h
    cases hb : Nat.beq p.1 i with
    | true =>
      rw [hb] at h
      rcases List.mem_cons.mp h with rfl | h
      · exact Or.inl rfl
      · have := z_ldrop_mem h; exact Or.inr ⟨List.mem_cons_of_mem _ this.1, this.2⟩
    | false =>
      rw [hb] at h
      cases hc : z_clash p.1 p.2 i v with
      | true =>
        rw [hc] at h
        rcases z_lput_mem (l := l) h with h | h
        · exact Or.inl h
        · exact Or.inr ⟨List.mem_cons_of_mem _ h.1, h.2⟩
      | false =>
        rw [hc] at h
        rcases List.mem_cons.mp h with rfl | h
        · exact Or.inr ⟨List.mem_cons_self, hc⟩
        · rcases z_lput_mem (l := l) h with h | h
          · exact Or.inl h
          · exact Or.inr ⟨List.mem_cons_of_mem _ h.1, h.2⟩
-- numbers
def z_and (x y : Int) : Int := (Int32.ofInt x &&& Int32.ofInt y).toInt
def z_or (x y : Int) : Int := (Int32.ofInt x ||| Int32.ofInt y).toInt
def z_xor (x y : Int) : Int := (Int32.ofInt x ^^^ Int32.ofInt y).toInt
def z_andL (x y : Int) : Int := (Int64.ofInt x &&& Int64.ofInt y).toInt
def z_orL (x y : Int) : Int := (Int64.ofInt x ||| Int64.ofInt y).toInt
def z_ushr (x y : Int) : Int := ((Int32.ofInt x).toUInt32 >>> ((Int32.ofInt y).toUInt32 &&& Int32.toUInt32 31)).toInt32.toInt
def z_lushr (x y : Int) : Int := ((Int64.ofInt x).toUInt64 >>> ((Int32.ofInt y).toInt64.toUInt64 &&& Int64.toUInt64 63)).toInt64.toInt
def z_u (f : Int → Int) (i v : Int) : Int → Int := fun j => if j = i then v else f j
-- one instruction
def z_p1 : List Nat → Nat
  | [] => 0
  | a :: _ => a
def z_1 (st : List zV) (k : Int → List zV → Prop) : Prop := match st with
  | .inl x :: r => k x r
  | _ => False
def z_2 (st : List zV) (k : Int → Int → List zV → Prop) : Prop := match st with
  | .inl y :: .inl x :: r => k x y r
  | _ => False
def z_L1 (st : List zV) (k : Int → List zV → Prop) : Prop := match st with
  | .inr (.inl x) :: r => k x r
  | _ => False
def z_L2 (st : List zV) (k : Int → Int → List zV → Prop) : Prop := match st with
  | .inr (.inl y) :: .inr (.inl x) :: r => k x y r
  | _ => False
def z_LI (st : List zV) (k : Int → Int → List zV → Prop) : Prop := match st with
  | .inl y :: .inr (.inl x) :: r => k x y r
  | _ => False
def z_B (op : ClassFile.Cond) (x y : Int) (a b : Prop) : Prop := match op with
  | .eq => (x = y → a) ∧ (¬ x = y → b)
  | .ne => (¬ x = y → a) ∧ (x = y → b)
  | .lt => (x < y → a) ∧ (y ≤ x → b)
  | .ge => (y ≤ x → a) ∧ (x < y → b)
  | .gt => (y < x → a) ∧ (x ≤ y → b)
  | .le => (x ≤ y → a) ∧ (y < x → b)
def z_swl (K : Nat → Prop) (x : Int) : Int → List Nat → Prop
  | _, [] => True
  | lo, t :: ts => (x = lo → K t) ∧ z_swl K x (lo + 1) ts
def z_sw (K : Nat → Prop) (x lo hi : Int) : List Nat → Prop
  | [] => False
  | d :: ts => ((x < lo ∨ hi < x) → K d) ∧ z_swl K x lo ts
def z_lk (K : Nat → Prop) (x : Int) (d : Nat) : List (Int × Int) → List Nat → Prop
  | [], _ => K d
  | _ :: _, [] => False
  | q :: r, t :: ts => (x = q.1 → K t) ∧ (¬ x = q.1 → z_lk K x d r ts)
def z_i (tb : List (Nat × zI)) (ft : List (Nat × (Nat × (Nat × Nat)))) (ct : List (Nat × Int) × List (Nat × Int)) (sc : Option (Nat × (Int → Int))) (Rr : Option zV → zW → Prop) (G K : zG) (pc : Nat) (ls : zL) (st : List zV) (ws : zW) (nx : Nat) (ps : List Nat) : Instr → Prop
  | .iconst n => K nx ls (.inl n :: st) ws
  | .bipush n => K nx ls (.inl n :: st) ws
  | .sipush n => K nx ls (.inl n :: st) ws
  | .lconst _ => match ps with
    | 0 :: _ => K nx ls (.inr (.inl 0) :: st) ws
    | _ => K nx ls (.inr (.inl 1) :: st) ws
  | .ldc i => match z_a ct.1 i with
    | some v => K nx ls (.inl v :: st) ws
    | none => False
  | .ldc_w i => match z_a ct.1 i with
    | some v => K nx ls (.inl v :: st) ws
    | none => False
  | .ldc2_w i => match z_a ct.2 i with
    | some v => K nx ls (.inr (.inl v) :: st) ws
    | none => False
  | .iload_n _ => match z_a ls (z_p1 ps) with
    | some (.inl x) => K nx ls (.inl x :: st) ws
    | _ => False
  | .iload _ => match z_a ls (z_p1 ps) with
    | some (.inl x) => K nx ls (.inl x :: st) ws
    | _ => False
  | .lload_n _ => match z_a ls (z_p1 ps) with
    | some (.inr (.inl x)) => K nx ls (.inr (.inl x) :: st) ws
    | _ => False
  | .lload _ => match z_a ls (z_p1 ps) with
    | some (.inr (.inl x)) => K nx ls (.inr (.inl x) :: st) ws
    | _ => False
  | .aload_n _ => match z_a ls (z_p1 ps) with
    | some (.inr (.inr x)) => K nx ls (.inr (.inr x) :: st) ws
    | _ => False
  | .aload _ => match z_a ls (z_p1 ps) with
    | some (.inr (.inr x)) => K nx ls (.inr (.inr x) :: st) ws
    | _ => False
  | .istore_n _ => z_1 st fun x r => K nx (z_lput (z_p1 ps) (.inl x) ls) r ws
  | .istore _ => z_1 st fun x r => K nx (z_lput (z_p1 ps) (.inl x) ls) r ws
  | .lstore_n _ => z_L1 st fun x r => K nx (z_lput (z_p1 ps) (.inr (.inl x)) ls) r ws
  | .lstore _ => z_L1 st fun x r => K nx (z_lput (z_p1 ps) (.inr (.inl x)) ls) r ws
  | .astore_n _ => match st with
    | .inr (.inr x) :: r => K nx (z_lput (z_p1 ps) (.inr (.inr x)) ls) r ws
    | _ => False
  | .astore _ => match st with
    | .inr (.inr x) :: r => K nx (z_lput (z_p1 ps) (.inr (.inr x)) ls) r ws
    | _ => False
  | .iinc _ d => match z_a ls (z_p1 ps) with
    | some (.inl x) => K nx (z_lput (z_p1 ps) (.inl (x + d)) ls) st ws
    | _ => False
  | .iadd => z_2 st fun x y r => K nx ls (.inl (x + y) :: r) ws
  | .isub => z_2 st fun x y r => K nx ls (.inl (x - y) :: r) ws
  | .imul => z_2 st fun x y r => K nx ls (.inl (x * y) :: r) ws
  | .iand => z_2 st fun x y r => K nx ls (.inl (z_and x y) :: r) ws
  | .ior => z_2 st fun x y r => K nx ls (.inl (z_or x y) :: r) ws
  | .ixor => z_2 st fun x y r => K nx ls (.inl (z_xor x y) :: r) ws
  | .idiv => z_2 st fun x y r => ((0 ≤ x ∧ x ≤ 2147483647) ∧ (0 < y ∧ y ≤ 2147483647)) ∧ K nx ls (.inl (x / y) :: r) ws
  | .irem => z_2 st fun x y r => ((0 ≤ x ∧ x ≤ 2147483647) ∧ (0 < y ∧ y ≤ 2147483647)) ∧ K nx ls (.inl (x % y) :: r) ws
  | .ineg => z_1 st fun x r => K nx ls (.inl (-x) :: r) ws
  | .ishl => z_2 st fun x y r => (0 ≤ y ∧ y < 32) ∧ K nx ls (.inl (x * 2 ^ y.toNat) :: r) ws
  | .ishr => z_2 st fun x y r => ((-2147483648 ≤ x ∧ x ≤ 2147483647) ∧ (0 ≤ y ∧ y < 32)) ∧ K nx ls (.inl (x / 2 ^ y.toNat) :: r) ws
  | .iushr => z_2 st fun x y r => K nx ls (.inl (z_ushr x y) :: r) ws
  | .ladd => z_L2 st fun x y r => K nx ls (.inr (.inl (x + y)) :: r) ws
  | .lsub => z_L2 st fun x y r => K nx ls (.inr (.inl (x - y)) :: r) ws
  | .lmul => z_L2 st fun x y r => K nx ls (.inr (.inl (x * y)) :: r) ws
  | .land => z_L2 st fun x y r => K nx ls (.inr (.inl (z_andL x y)) :: r) ws
  | .lor => z_L2 st fun x y r => K nx ls (.inr (.inl (z_orL x y)) :: r) ws
  | .ldiv => z_L2 st fun x y r => ((0 ≤ x ∧ x ≤ 9223372036854775807) ∧ (0 < y ∧ y ≤ 9223372036854775807)) ∧ K nx ls (.inr (.inl (x / y)) :: r) ws
  | .lrem => z_L2 st fun x y r => ((0 ≤ x ∧ x ≤ 9223372036854775807) ∧ (0 < y ∧ y ≤ 9223372036854775807)) ∧ K nx ls (.inr (.inl (x % y)) :: r) ws
  | .lshl => z_LI st fun x y r => (0 ≤ y ∧ y < 64) ∧ K nx ls (.inr (.inl ((x * 2 ^ y.toNat).bmod 18446744073709551616)) :: r) ws
  | .lshr => z_LI st fun x y r => ((-9223372036854775808 ≤ x ∧ x ≤ 9223372036854775807) ∧ (0 ≤ y ∧ y < 64)) ∧ K nx ls (.inr (.inl (x / 2 ^ y.toNat)) :: r) ws
  | .lushr => z_LI st fun x y r => K nx ls (.inr (.inl (z_lushr x y)) :: r) ws
  | .i2l => z_1 st fun x r => (-2147483648 ≤ x ∧ x ≤ 2147483647) ∧ K nx ls (.inr (.inl x) :: r) ws
  | .l2i => z_L1 st fun x r => K nx ls (.inl x :: r) ws ∨ K nx ls (.inl (x.bmod 4294967296) :: r) ws
  | .i2s => z_1 st fun x r => K nx ls (.inl (x.bmod 65536) :: r) ws
  | .lcmp => z_L2 st fun x y r => ((-9223372036854775808 ≤ x ∧ x ≤ 9223372036854775807) ∧ (-9223372036854775808 ≤ y ∧ y ≤ 9223372036854775807)) ∧ match z_a tb nx with
    | some (.ifCond op _, (nx2, ps2)) => z_B op x y (K (z_p1 ps2) ls r ws) (K nx2 ls r ws)
    | _ => False
  | .dup => match st with
    | .inl x :: r => K nx ls (.inl x :: .inl x :: r) ws
    | .inr (.inr x) :: r => K nx ls (.inr (.inr x) :: .inr (.inr x) :: r) ws
    | _ => False
  | .pop => match st with
    | .inl _ :: r => K nx ls r ws
    | .inr (.inr _) :: r => K nx ls r ws
    | _ => False
  | .goto _ => K (z_p1 ps) ls st ws
  | .ifCond op _ => z_1 st fun x r => (-2147483648 ≤ x ∧ x ≤ 2147483647) ∧ z_B op x 0 (K (z_p1 ps) ls r ws) (K nx ls r ws)
  | .if_icmp op _ => z_2 st fun x y r => ((-2147483648 ≤ x ∧ x ≤ 2147483647) ∧ (-2147483648 ≤ y ∧ y ≤ 2147483647)) ∧ z_B op x y (K (z_p1 ps) ls r ws) (K nx ls r ws)
  | .getfield i => match st with
    | .inr (.inr q) :: r => match z_g ws q with
      | some (.inl o) => match z_a ft i with
        | some t => bif Nat.beq o.1 t.1 then (match z_g o.2 t.2.1 with
          | some v => K nx ls (v :: r) ws
          | none => False) else False
        | none => False
      | _ => False
    | _ => False
  | .putfield i => match st with
    | .inl x :: .inr (.inr q) :: r => match z_g ws q with
      | some (.inl o) => match z_a ft i with
        | some t => bif Nat.beq o.1 t.1 then (bif Nat.blt t.2.1 o.2.length then (match t.2.2 with
          | 1 => K nx ls r (z_s ws q (.inl (o.1, z_s o.2 t.2.1 (.inl x))))
          | 2 => (x = 0 ∨ x = 1) ∧ K nx ls r (z_s ws q (.inl (o.1, z_s o.2 t.2.1 (.inl x))))
          | _ => False) else False) else False
        | none => False
      | _ => False
    | _ => False
  | .iaload => match st with
    | .inl i :: .inr (.inr q) :: r => match z_g ws q with
      | some (.inr (_, (n, .inl f))) => (0 ≤ i ∧ i < (n : Int) ∧ i ≤ 2147483647) ∧ K nx ls (.inl (f i) :: r) ws
      | some _ => False
      | none => match sc with
        | some b => bif Nat.beq q 9999 then ((0 ≤ i ∧ i < (b.1 : Int) ∧ i ≤ 2147483647) ∧ K nx ls (.inl (b.2 i) :: r) ws) else False
        | none => False
    | _ => False
  | .laload => match st with
    | .inl i :: .inr (.inr q) :: r => match z_g ws q with
      | some (.inr (_, (n, .inr (.inl f)))) => (0 ≤ i ∧ i < (n : Int) ∧ i ≤ 2147483647) ∧ K nx ls (.inr (.inl (f i)) :: r) ws
      | _ => False
    | _ => False
  | .aaload => match st with
    | .inl i :: .inr (.inr q) :: r => match z_g ws q with
      | some (.inr (t, (n, .inr (.inr f)))) => bif Nat.ble t 1 then ((0 ≤ i ∧ i < (n : Int) ∧ i ≤ 2147483647) ∧ K nx ls (.inr (.inr (f i)) :: r) ws) else False
      | _ => False
    | _ => False
  | .iastore => match st with
    | .inl v :: .inl i :: .inr (.inr q) :: r => match z_g ws q with
      | some (.inr (t, (n, .inl f))) => (0 ≤ i ∧ i < (n : Int) ∧ i ≤ 2147483647) ∧ K nx ls r (z_s ws q (.inr (t, (n, .inl (z_u f i v)))))
      | _ => False
    | _ => False
  | .lastore => match st with
    | .inr (.inl v) :: .inl i :: .inr (.inr q) :: r => match z_g ws q with
      | some (.inr (t, (n, .inr (.inl f)))) => (0 ≤ i ∧ i < (n : Int) ∧ i ≤ 2147483647) ∧ K nx ls r (z_s ws q (.inr (t, (n, .inr (.inl (z_u f i v))))))
      | _ => False
    | _ => False
  | .arraylength => match st with
    | .inr (.inr q) :: r => match z_g ws q with
      | some _ => False
      | none => match sc with
        | some b => bif Nat.beq q 9999 then K nx ls (.inl (b.1 : Int) :: r) ws else False
        | none => False
    | _ => False
  | .ireturn => match st with
    | [.inl x] => Rr (some (.inl x)) ws
    | _ => False
  | .lreturn => match st with
    | [.inr (.inl x)] => Rr (some (.inr (.inl x))) ws
    | _ => False
  | .return_ => match st with
    | [] => Rr none ws
    | _ => False
  | .tableswitch _ lo hi _ => z_1 st fun x r => (-2147483648 ≤ x ∧ x ≤ 2147483647) ∧ z_sw (fun t => K t ls r ws) x lo hi ps
  | .lookupswitch _ prs => z_1 st fun x r => (-2147483648 ≤ x ∧ x ≤ 2147483647) ∧ match ps with
    | d :: ts => z_lk (fun t => K t ls r ws) x d prs.toList ts
    | [] => False
  | .invokevirtual _ => G pc ls st ws
  | .invokestatic _ => G pc ls st ws
  | .invokespecial _ => G pc ls st ws
  | _ => False
def z_in (k : Nat) : List Nat → Bool
  | [] => false
  | a :: l => Nat.beq a k || z_in k l
def z_run (tb : List (Nat × zI)) (ft : List (Nat × (Nat × (Nat × Nat)))) (ct : List (Nat × Int) × List (Nat × Int)) (sc : Option (Nat × (Int → Int))) (Rr : Option zV → zW → Prop) (stops : List Nat) (G : zG) : Nat → zG
  | 0, pc, ls, st, ws => G pc ls st ws
  | n + 1, pc, ls, st, ws => match z_a tb pc with
    | none => False
    | some q => z_i tb ft ct sc Rr G (fun pc' ls' st' ws' => bif z_in pc' stops then G pc' ls' st' ws' else z_run tb ft ct sc Rr stops G n pc' ls' st' ws') pc ls st ws q.2.1 q.2.2 q.1
-- the table of a method's instructions against its bytes
def z_chk (pc nL len : Nat) (ps : List Nat) : Instr → Bool
  | .iconst _ => Nat.beq len 1
  | .bipush n => Nat.beq len 2 && (decide (-128 ≤ n) && decide (n ≤ 127))
  | .sipush n => Nat.beq len 3 && (decide (-32768 ≤ n) && decide (n ≤ 32767))
  | .lconst n => Nat.beq len 1 && (Nat.beq (n : Nat) (z_p1 ps) && !ps.isEmpty)
  | .iload_n k => Nat.beq len 1 && Nat.beq (k : Nat) (z_p1 ps)
  | .lload_n k => Nat.beq len 1 && Nat.beq (k : Nat) (z_p1 ps)
  | .aload_n k => Nat.beq len 1 && Nat.beq (k : Nat) (z_p1 ps)
  | .iload k => Nat.beq len 2 && Nat.beq k (z_p1 ps)
  | .lload k => Nat.beq len 2 && Nat.beq k (z_p1 ps)
  | .aload k => Nat.beq len 2 && Nat.beq k (z_p1 ps)
  | .istore_n k => Nat.beq len 1 && (Nat.beq (k : Nat) (z_p1 ps) && Nat.blt (z_p1 ps) nL)
  | .astore_n k => Nat.beq len 1 && (Nat.beq (k : Nat) (z_p1 ps) && Nat.blt (z_p1 ps) nL)
  | .lstore_n k => Nat.beq len 1 && (Nat.beq (k : Nat) (z_p1 ps) && Nat.blt (z_p1 ps + 1) nL)
  | .istore k => Nat.beq len 2 && (Nat.beq k (z_p1 ps) && Nat.blt (z_p1 ps) nL)
  | .astore k => Nat.beq len 2 && (Nat.beq k (z_p1 ps) && Nat.blt (z_p1 ps) nL)
  | .lstore k => Nat.beq len 2 && (Nat.beq k (z_p1 ps) && Nat.blt (z_p1 ps + 1) nL)
  | .iinc k _ => Nat.beq len 3 && (Nat.beq k (z_p1 ps) && Nat.blt (z_p1 ps) nL)
  | .goto off => Nat.beq len 3 && decide ((pc : Int) + off = (z_p1 ps : Int))
  | .ifCond _ off => Nat.beq len 3 && decide ((pc : Int) + off = (z_p1 ps : Int))
  | .if_icmp _ off => Nat.beq len 3 && decide ((pc : Int) + off = (z_p1 ps : Int))
  | .tableswitch d lo hi offs => decide (ps.map (fun t : Nat => (t : Int)) = (d :: offs.toList).map (fun o => (pc : Int) + o)) && decide (hi = lo + (offs.size : Int) - 1)
  | .lookupswitch d prs => decide (ps.map (fun t : Nat => (t : Int)) = (d :: prs.toList.map (fun q => q.2)).map (fun o => (pc : Int) + o)) && (prs.toList.zip (prs.toList.drop 1)).all (fun q => decide (q.1.1 < q.2.1))
  | .ldc _ => Nat.beq len 2
  | .ldc_w _ => Nat.beq len 3
  | .ldc2_w _ => Nat.beq len 3
  | .getfield _ => Nat.beq len 3
  | .putfield _ => Nat.beq len 3
  | .invokevirtual _ => Nat.beq len 3
  | .invokestatic _ => Nat.beq len 3
  | .invokespecial _ => Nat.beq len 3
  | .new _ => Nat.beq len 3
  | .anewarray _ => Nat.beq len 3
  | .newarray _ => Nat.beq len 2
  | _ => Nat.beq len 1
def z_ent (cc : ByteArray) (nL : Nat) (q : Nat × zI) : Bool := match decode cc q.1 with
  | .ok (i, len) => decide (i = q.2.1) && (Nat.beq q.2.2.1 (q.1 + len) && z_chk q.1 nL len q.2.2.2 q.2.1)
  | .error _ => false
theorem z_ent_spec {cc : ByteArray} {nL : Nat} {tb : List (Nat × zI)} (h : tb.all (z_ent cc nL) = true) {pc : Nat} {q : zI} (hq : z_a tb pc = some q) : ∃ len, decode cc pc = .ok (q.1, len) ∧ q.2.1 = pc + len ∧ z_chk pc nL len q.2.2 q.1 = true := by
  have h1 := List.all_eq_true.mp h _ (z_a_mem hq)
  unfold z_ent at h1
  dsimp only at h1
  cases hd : decode cc pc with
  | error x => rw [hd] at h1; cases h1
  | ok r =>
    obtain ⟨i, len⟩ := r
    rw [hd] at h1
    simp only [Bool.and_eq_true, decide_eq_true_eq] at h1
    obtain ⟨rfl, h2, h3⟩ := h1
    exact ⟨len, rfl, Nat.eq_of_beq_eq_true h2, h3⟩
