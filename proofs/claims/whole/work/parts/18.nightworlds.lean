/-! NIGHTS of the class -/
theorem z_g_mid : ∀ (pre : zW) (c : zC) (post : zW), z_g (pre ++ c :: post) pre.length = some c
  | [], c, post => rfl
  | a :: pre, c, post => z_g_mid pre c post
theorem z_s_mid : ∀ (pre : zW) (c d : zC) (post : zW), z_s (pre ++ c :: post) pre.length d = pre ++ d :: post
  | [], c, d, post => rfl
  | a :: pre, c, d, post => congrArg (a :: ·) (z_s_mid pre c d post)
theorem z_emb (f : zC → zC) (post : zW) : ∀ (w pre : zW), (List.range' pre.length w.length).map (z_g (pre ++ (w.map f ++ post))) = w.map (fun c => some (f c))
  | [], pre => rfl
  | c :: w, pre => by
    have h := z_emb f post w (pre ++ [f c])
    simp only [List.length_append, List.length_cons, List.length_nil, Nat.zero_add, List.append_assoc, List.cons_append, List.nil_append] at h
    simp only [List.length_cons, List.range'_succ, List.map_cons, List.cons_append]
    rw [z_g_mid, h]
theorem z_embb (π : List Nat) (post : zW) : ∀ (w2 w pre : zW), w.length = w2.length → z_sct π (List.range' pre.length w2.length) w2 (pre ++ (w ++ post)) = pre ++ (w2.map (z_ren π) ++ post)
  | [], [], pre, _ => rfl
  | c :: w2, d :: w, pre, hl => by
    have h := z_embb π post w2 w (pre ++ [z_ren π c]) (by simpa using hl)
    simp only [List.length_append, List.length_cons, List.length_nil, Nat.zero_add, List.append_assoc, List.cons_append, List.nil_append] at h
    simp only [List.length_cons, List.range'_succ, List.map_cons, List.cons_append, z_sct]
    rw [z_s_mid, h]
theorem z_ren_id (n : Nat) (c : zC) : z_ren (List.range' 0 (n + 1)) c = c := by
  have hp : ∀ k, z_pl (List.range' 0 (n + 1)) k = k := fun k => by rw [z_pl_range]; omega
  have hv : ∀ v, z_rv (List.range' 0 (n + 1)) v = v := fun v => by
    rcases v with x | x | x
    · rfl
    · rfl
    · show Sum.inr (Sum.inr (z_pl _ x)) = _; rw [hp]
  rcases c with ⟨ci, fs⟩ | ⟨t, n, f | f | f⟩
  · show Sum.inl (ci, fs.map (z_rv _)) = _
    rw [List.map_congr_left (fun v _ => hv v), List.map_id']
  · rfl
  · rfl
  · show Sum.inr (t, (n, Sum.inr (Sum.inr (fun j => z_pl _ (f j))))) = _
    simp only [hp]
abbrev zCD : Type := (Int → Int) × ((Int → Int) × (Nat × (Int × Int)))
abbrev zCoC (o : Nat) (c : zCD) : zW := [.inl (0, [.inr (.inr (o + 1)), .inr (.inr (o + 2)), .inl (c.2.2.1 : Int), .inl c.2.2.2.1, .inl c.2.2.2.2]), .inr (0, (9, .inl c.1)), .inr (0, (9, .inl c.2.1))]
abbrev wCoD (c : zCD) : zW := wCo c.1 c.2.1 c.2.2.1 c.2.2.2.1 c.2.2.2.2
abbrev wCoD2 (c c' : zCD) : zW := wCo2 c.1 c.2.1 c.2.2.1 c.2.2.2.1 c.2.2.2.2 c'.1 c'.2.1 c'.2.2.1 c'.2.2.2.1 c'.2.2.2.2
def zCos (cs : Nat → zCD) : zW := zCoC 3 (cs 0) ++ (zCoC 6 (cs 1) ++ (zCoC 9 (cs 2) ++ (zCoC 12 (cs 3) ++ (zCoC 15 (cs 4) ++ (zCoC 18 (cs 5) ++ (zCoC 21 (cs 6) ++ (zCoC 24 (cs 7) ++ (zCoC 27 (cs 8) ++ (zCoC 30 (cs 9) ++ (zCoC 33 (cs 10) ++ (zCoC 36 (cs 11))))))))))))
def zCos2 (cs : Nat → zCD) : zW := zCoC 42 (cs 0) ++ (zCoC 45 (cs 1) ++ (zCoC 48 (cs 2) ++ (zCoC 51 (cs 3) ++ (zCoC 54 (cs 4) ++ (zCoC 57 (cs 5) ++ (zCoC 60 (cs 6) ++ (zCoC 63 (cs 7) ++ (zCoC 66 (cs 8) ++ (zCoC 69 (cs 9) ++ (zCoC 72 (cs 10) ++ (zCoC 75 (cs 11))))))))))))
abbrev wNi (su : Int → Int) (cs : Nat → zCD) (sz : Nat) : zW := .inl (1, [.inr (.inr 1), .inr (.inr 2), .inl (sz : Int)]) :: .inr (0, (12, .inl su)) :: .inr (0, (12, .inr (.inr (fun j => 3 + 3 * j.toNat)))) :: zCos cs
abbrev wNiCo (su : Int → Int) (cs : Nat → zCD) (sz : Nat) (c : zCD) : zW := wNi su cs sz ++ zCoC 39 c
abbrev wNi2 (su : Int → Int) (cs : Nat → zCD) (sz : Nat) (su' : Int → Int) (cs' : Nat → zCD) (sz' : Nat) : zW := wNi su cs sz ++ (.inl (1, [.inr (.inr 40), .inr (.inr 41), .inl (sz' : Int)]) :: .inr (0, (12, .inl su')) :: .inr (0, (12, .inr (.inr (fun j => 42 + 3 * j.toNat)))) :: zCos2 cs')
def z_un (cs : Nat → zCD) (i : Nat) (c : zCD) : Nat → zCD := fun k => if k = i then c else cs k
def zCpC (c c' : zCD) : zCD := (z_cpy c'.1 c.1 9, (z_cpy c'.2.1 c.2.1 9, c'.2.2))
def zOkC (c : zCD) : Prop := c.2.2.1 ≤ 9 ∧ (∀ j : Nat, j < c.2.2.1 → 0 ≤ c.2.1 j ∧ c.2.1 j ≤ 20) ∧ (0 ≤ c.2.2.2.1 ∧ c.2.2.2.1 ≤ 3) ∧ (0 ≤ c.2.2.2.2 ∧ c.2.2.2.2 ≤ 2)
theorem ni_pick {su : Int → Int} {cs : Nat → zCD} {sz : Nat} : ∀ (i : Nat), i < 12 → [3 + 3 * i, 3 + 3 * i + 1, 3 + 3 * i + 2].map (z_g (wNi su cs sz)) = (wCoD (cs i)).map (fun c => some (z_ren [3 + 3 * i, 3 + 3 * i + 1, 3 + 3 * i + 2] c))
  | 0, _ => rfl
  | 1, _ => rfl
  | 2, _ => rfl
  | 3, _ => rfl
  | 4, _ => rfl
  | 5, _ => rfl
  | 6, _ => rfl
  | 7, _ => rfl
  | 8, _ => rfl
  | 9, _ => rfl
  | 10, _ => rfl
  | 11, _ => rfl
  | i + 12, h => absurd h (by omega)
theorem ni_back {su : Int → Int} {cs : Nat → zCD} {sz : Nat} : ∀ (i : Nat), i < 12 → z_sct [3 + 3 * i, 3 + 3 * i + 1, 3 + 3 * i + 2] [3 + 3 * i, 3 + 3 * i + 1, 3 + 3 * i + 2] (wCoD (cs i)) (wNi su cs sz) = wNi su cs sz
  | 0, _ => rfl
  | 1, _ => rfl
  | 2, _ => rfl
  | 3, _ => rfl
  | 4, _ => rfl
  | 5, _ => rfl
  | 6, _ => rfl
  | 7, _ => rfl
  | 8, _ => rfl
  | 9, _ => rfl
  | 10, _ => rfl
  | 11, _ => rfl
  | i + 12, h => absurd h (by omega)
theorem ni_pickA {su : Int → Int} {cs : Nat → zCD} {sz : Nat} {c : zCD} : ∀ (i : Nat), i < 12 → [3 + 3 * i, 3 + 3 * i + 1, 3 + 3 * i + 2, 39, 40, 41].map (z_g (wNiCo su cs sz c)) = (wCoD2 (cs i) c).map (fun c => some (z_ren [3 + 3 * i, 3 + 3 * i + 1, 3 + 3 * i + 2, 39, 40, 41] c))
  | 0, _ => rfl
  | 1, _ => rfl
  | 2, _ => rfl
  | 3, _ => rfl
  | 4, _ => rfl
  | 5, _ => rfl
  | 6, _ => rfl
  | 7, _ => rfl
  | 8, _ => rfl
  | 9, _ => rfl
  | 10, _ => rfl
  | 11, _ => rfl
  | i + 12, h => absurd h (by omega)
theorem ni_putA {su : Int → Int} {cs : Nat → zCD} {sz : Nat} {c d : zCD} : ∀ (i : Nat), i < 12 → z_sct [3 + 3 * i, 3 + 3 * i + 1, 3 + 3 * i + 2, 39, 40, 41] [3 + 3 * i, 3 + 3 * i + 1, 3 + 3 * i + 2, 39, 40, 41] (wCoD2 d c) (wNiCo su cs sz c) = wNiCo su (z_un cs i d) sz c
  | 0, _ => rfl
  | 1, _ => rfl
  | 2, _ => rfl
  | 3, _ => rfl
  | 4, _ => rfl
  | 5, _ => rfl
  | 6, _ => rfl
  | 7, _ => rfl
  | 8, _ => rfl
  | 9, _ => rfl
  | 10, _ => rfl
  | 11, _ => rfl
  | i + 12, h => absurd h (by omega)
theorem ni_pickC {su : Int → Int} {cs : Nat → zCD} {sz : Nat} {su' : Int → Int} {cs' : Nat → zCD} {sz' : Nat} : ∀ (i : Nat), i < 12 → [3 + 3 * i, 3 + 3 * i + 1, 3 + 3 * i + 2, 42 + 3 * i, 42 + 3 * i + 1, 42 + 3 * i + 2].map (z_g (wNi2 su cs sz su' cs' sz')) = (wCoD2 (cs i) (cs' i)).map (fun c => some (z_ren [3 + 3 * i, 3 + 3 * i + 1, 3 + 3 * i + 2, 42 + 3 * i, 42 + 3 * i + 1, 42 + 3 * i + 2] c))
  | 0, _ => rfl
  | 1, _ => rfl
  | 2, _ => rfl
  | 3, _ => rfl
  | 4, _ => rfl
  | 5, _ => rfl
  | 6, _ => rfl
  | 7, _ => rfl
  | 8, _ => rfl
  | 9, _ => rfl
  | 10, _ => rfl
  | 11, _ => rfl
  | i + 12, h => absurd h (by omega)
theorem ni_putC {su : Int → Int} {cs : Nat → zCD} {sz : Nat} {su' : Int → Int} {cs' : Nat → zCD} {sz' : Nat} {d : zCD} : ∀ (i : Nat), i < 12 → z_sct [3 + 3 * i, 3 + 3 * i + 1, 3 + 3 * i + 2, 42 + 3 * i, 42 + 3 * i + 1, 42 + 3 * i + 2] [3 + 3 * i, 3 + 3 * i + 1, 3 + 3 * i + 2, 42 + 3 * i, 42 + 3 * i + 1, 42 + 3 * i + 2] (wCoD2 d (cs' i)) (wNi2 su cs sz su' cs' sz') = wNi2 su (z_un cs i d) sz su' cs' sz'
  | 0, _ => rfl
  | 1, _ => rfl
  | 2, _ => rfl
  | 3, _ => rfl
  | 4, _ => rfl
  | 5, _ => rfl
  | 6, _ => rfl
  | 7, _ => rfl
  | 8, _ => rfl
  | 9, _ => rfl
  | 10, _ => rfl
  | 11, _ => rfl
  | i + 12, h => absurd h (by omega)
theorem ni_id {su : Int → Int} {cs : Nat → zCD} {sz : Nat} : (List.range' 0 39).map (z_g (wNi su cs sz)) = (wNi su cs sz).map (fun c => some (z_ren (List.range' 0 39) c)) := by
  have h := z_emb (fun c => c) [] (wNi su cs sz) []
  simp only [List.map_id', List.append_nil, List.nil_append] at h
  simp only [z_ren_id 38]
  exact h
theorem ni_idb {su : Int → Int} {cs : Nat → zCD} {sz : Nat} : z_sct (List.range' 0 39) (List.range' 0 39) (wNi su cs sz) (wNi su cs sz) = wNi su cs sz := by
  have h := z_embb (List.range' 0 39) [] (wNi su cs sz) (wNi su cs sz) [] rfl
  have e : (wNi su cs sz).map (z_ren (List.range' 0 39)) = wNi su cs sz := by
    rw [List.map_congr_left (fun c _ => z_ren_id 38 c), List.map_id']
  rw [e] at h
  simp only [List.append_nil, List.nil_append] at h
  exact h
