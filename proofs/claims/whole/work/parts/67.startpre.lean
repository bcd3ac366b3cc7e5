/-! THE LAW: what its entry has -/
def zV1 : zW := (zRoot 0 :: ((zTA (fun _ => 0) (fun _ => 0) (fun _ => 0) 0 0 0 (fun _ => 0) (fun _ => zC0) 0).map (z_ren (List.range' 1 45)) ++ ((zTA (fun _ => 0) (fun _ => 0) (fun _ => 0) 0 0 0 (fun _ => 0) (fun _ => zC0) 0).map (z_ren (List.range' 46 45)) ++ zTs (fun _ => 0) 0 0 0 (fun _ => 0) zC0 (fun _ => ((fun _ => 0), (0, -1))))))
def zWF0 : zW := (wFp 0 (fun _ => 0) (fun _ => 0) (fun _ => 0) 0 0 0 (fun _ => 0) (fun _ => zC0) 0 (zKs (fun _ => 0) (fun _ => 0) (fun _ => 0) 0 0 0 (fun _ => 0) (fun _ => zC0) 0 (zTs (fun _ => 0) 0 0 0 (fun _ => 0) zC0 (fun _ => ((fun _ => 0), (0, -1))))))
def zWM0 : zW := (wMo (fun _ => 0) (fun _ => 0) (fun _ => 0) 0 (fun _ => 0) (fun _ => 0) (fun _ => 0) (fun _ => 0) (fun _ => 0) 0 (fun _ => 0) 0 0 0 (fun _ => 0) 0 0 (fun _ => 0) 0 0 (z_u (z_u (z_u (z_u (fun _ => 0) 0 (-1)) 1 (-1)) 2 (-1)) 3 (-1)) (fun _ => 0) (fun _ => 0))
theorem zWF0_weq : z_weq zV1 zWF0 := by
  unfold zV1 zWF0
  rw [fp_split]
  exact z_weq_app (a := [zRoot 0]) (z_weq_rf _) (z_weq_app (seg_weq0 (by decide +kernel) (by decide +kernel)) (z_weq_app (seg_weq0 (by decide +kernel) (by decide +kernel)) (z_weq_rf _)))
theorem zCl_ren {o n N : Nat} (h : o + (n + 1) ≤ N) {c : zC} (hc : zCl (n + 1) c) : zCl N (z_ren (List.range' o (n + 1)) c) := by
  have hpl : ∀ k, z_pl (List.range' o (n + 1)) k = o + k := fun k => z_pl_range n o k
  rcases c with ⟨ci, fs⟩ | ⟨t, m, f | f | f⟩
  · intro v hv
    obtain ⟨u, hu, rfl⟩ := List.mem_map.mp hv
    have h1 := hc u hu
    rcases u with x | x | x
    · trivial
    · trivial
    · show z_pl (List.range' o (n + 1)) x < N
      have h2 : x < n + 1 := h1
      rw [hpl]; omega
  · trivial
  · trivial
  · intro j hj
    have h2 : f j < n + 1 := hc j hj
    show z_pl (List.range' o (n + 1)) (f j) < N
    rw [hpl]; omega
theorem zV1_cl : ∀ c ∈ zV1, zCl 107 c := by
  intro c hc
  rcases List.mem_cons.mp hc with rfl | hc
  · exact zClb_ok rfl
  rcases List.mem_append.mp hc with hc | hc
  · obtain ⟨d, hd, rfl⟩ := List.mem_map.mp hc
    exact zCl_ren (o := 1) (n := 44) (Nat.le_of_ble_eq_true rfl) (cl_Ta d hd)
  rcases List.mem_append.mp hc with hc | hc
  · obtain ⟨d, hd, rfl⟩ := List.mem_map.mp hc
    exact zCl_ren (o := 46) (n := 44) (Nat.le_of_ble_eq_true rfl) (cl_Ta d hd)
  rcases List.mem_cons.mp hc with rfl | hc
  · exact zClb_ok rfl
  rcases List.mem_cons.mp hc with rfl | hc
  · exact zClb_ok rfl
  rcases List.mem_cons.mp hc with rfl | hc
  · exact zClb_ok rfl
  rcases List.mem_cons.mp hc with rfl | hc
  · exact zClb_ok rfl
  rcases List.mem_cons.mp hc with rfl | hc
  · exact zClb_ok rfl
  rcases List.mem_cons.mp hc with rfl | hc
  · exact zClb_ok rfl
  rcases List.mem_cons.mp hc with rfl | hc
  · exact zClb_ok rfl
  rcases List.mem_cons.mp hc with rfl | hc
  · intro j hj
    show 99 + 2 * ((j : Int)).toNat < 107
    omega
  · exact zClb_ok (List.all_eq_true.mp (rfl : (zShC 99 ((fun _ => 0), (0, -1)) ++ (zShC 101 ((fun _ => 0), (0, -1)) ++ (zShC 103 ((fun _ => 0), (0, -1)) ++ zShC 105 ((fun _ => 0), (0, -1))))).all (zClb 107) = true) c hc)
theorem zWM0_cl : ∀ c ∈ zWM0, zCl 15 c := fun c hc => zClb_ok (List.all_eq_true.mp (rfl : zWM0.all (zClb 15) = true) c hc)
theorem zV1_len : zV1.length = 107 := rfl
theorem zWF0_len : zWF0.length = 107 := rfl
theorem zWM0_len : zWM0.length = 15 := rfl
theorem zInv_0 : zInv zWF0 zWM0 := by
  have hR : ∀ i : Nat, i < 4 → z_u (z_u (z_u (z_u (fun _ => 0) 0 (-1)) 1 (-1)) 2 (-1)) 3 (-1) (i : Int) = -1 := fun i hi => by
    unfold z_u
    by_cases h3 : (i : Int) = 3
    · rw [if_pos h3]
    rw [if_neg h3]
    by_cases h2 : (i : Int) = 2
    · rw [if_pos h2]
    rw [if_neg h2]
    by_cases h1 : (i : Int) = 1
    · rw [if_pos h1]
    rw [if_neg h1, if_pos (by omega)]
  have qw : (0 : Int) ≤ 0 ∧ (0 : Int) ≤ 99 := by omega
  have ql : (0 : Int) ≤ 0 ∧ (0 : Int) ≤ 2 := by omega
  have qs : (-1 : Int) ≤ -1 ∧ (-1 : Int) ≤ 24 := by omega
  have qz : (0 : Int) ≤ 0 ∧ (0 : Int) ≤ 24 := by omega
  have qL : (-9223372036854775808 : Int) ≤ 0 ∧ (0 : Int) ≤ 9223372036854775807 := by omega
  refine ⟨0, (fun _ => 0), (fun _ => 0), (fun _ => 0), 0, 0, 0, (fun _ => 0), (fun _ => zC0), 0, (fun _ => 0), (fun _ => 0), (fun _ => 0), 0, 0, 0, (fun _ => 0), (fun _ => zC0), 0, (fun _ => 0), 0, 0, 0, (fun _ => 0), zC0, (fun _ => ((fun _ => 0), (0, -1))), (fun _ => 0), (fun _ => 0), (fun _ => 0), (fun _ => 0), (fun _ => 0), (fun _ => 0), (fun _ => 0), (fun _ => 0), (fun _ => 0), 0, 0, (fun _ => 0), 0, 0, (fun _ => 0), 0, 0, _, (fun _ => 0), (fun _ => 0), rfl, rfl, ?_, ?_, ?_, ?_⟩
  · exact ⟨⟨by omega, by omega, by omega⟩, ⟨rfl, rfl⟩, ⟨fun j _ => qw, fun j _ => rfl⟩, ⟨fun j hj => absurd hj (Nat.not_lt_zero j), fun j _ => rfl⟩, ⟨fun j hj => absurd hj (Nat.not_lt_zero j), fun j _ => rfl⟩, by omega, zRN_0⟩
  · exact ⟨⟨by omega, 0, 0, rfl, rfl⟩, Or.inl ⟨rfl, rfl⟩⟩
  · exact ⟨rfl, by omega, fun j hj => absurd hj (Nat.not_lt_zero j)⟩
  · refine ⟨fun i hi => ⟨⟨ql, qs, fun j => qL⟩, ⟨?_, qz⟩, Or.inl ⟨rfl, hR i hi⟩⟩, fun j => qL⟩
    rw [hR i hi]; omega
theorem z_nest_in : ∀ w ∈ z_nest, w ∈ lw_tbl := by decide +kernel
theorem z_nest_on : ∀ w ∈ z_nest, w.onTables = true := by decide +kernel
theorem lw_known {s : State} {b : Nat} (hts : ∀ w ∈ lw_tbl, w.before #[Value.ref b] s = true) : (∃ (D : va_G) (cA : Nat → ClassId), va_K D classes (z_t cA) s) ∧ z_N s ∧ z_O s := by
  have hz : ∀ w ∈ z_tbl, w.before #[Value.ref b] s = true := fun w hw => hts w (List.mem_filter.mp hw).1
  have hO0 : (Cond.arrayOver (.object RX0)).before #[Value.ref b] s = true := hts _ (List.mem_of_getElem? (i := 114) (by decide +kernel))
  have hO2 : (Cond.arrayOver (.object RX2)).before #[Value.ref b] s = true := hts _ (List.mem_of_getElem? (i := 163) (by decide +kernel))
  refine ⟨?_, fun w hw => va_Nw.of (z_nest_on w hw) (hts w (z_nest_in w hw)), va_AO.of hO0, va_AO.of hO2⟩
  obtain ⟨c0, i0, k0⟩ := u_known (C := RX0) (T := TX0) (N := 5) (n := 5) hz izX0 (hz (.instantiable RX0 5) (z_mem 86 (by decide +kernel) (by decide +kernel)))
  obtain ⟨c1, i1, k1⟩ := u_known (C := RX1) (T := TX1) (N := 3) (n := 3) hz izX1 (hz (.instantiable RX1 3) (z_mem 108 (by decide +kernel) (by decide +kernel)))
  obtain ⟨c2, i2, k2⟩ := u_known (C := RX2) (T := TX2) (N := 3) (n := 3) hz izX2 (hz (.instantiable RX2 3) (z_mem 164 (by decide +kernel) (by decide +kernel)))
  obtain ⟨c3, i3, k3⟩ := u_known (C := RX3) (T := TX3) (N := 1) (n := 1) hz izX3 (hz (.instantiable RX3 1) (z_mem 75 (by decide +kernel) (by decide +kernel)))
  obtain ⟨c4, i4, k4⟩ := u_known (C := RX4) (T := TX4) (N := 3) (n := 3) hz izX4 (hz (.instantiable RX4 3) (z_mem 69 (by decide +kernel) (by decide +kernel)))
  obtain ⟨c5, i5, k5⟩ := u_known (C := RX5) (T := TX5) (N := 4) (n := 4) hz izX5 (hz (.instantiable RX5 4) (z_mem 140 (by decide +kernel) (by decide +kernel)))
  obtain ⟨c6, i6, k6⟩ := u_known (C := RX6) (T := TX6) (N := 7) (n := 7) hz izX6 (hz (.instantiable RX6 7) (z_mem 61 (by decide +kernel) (by decide +kernel)))
  obtain ⟨c7, i7, k7⟩ := u_known (C := RX7) (T := TX7) (N := 23) (n := 23) hz izX7 (hz (.instantiable RX7 23) (z_mem 715 (by decide +kernel) (by decide +kernel)))
  obtain ⟨a0, e0, f0, g0, h0, l0⟩ := Cond.arrayClass_spec (hz (.arrayClass .int) (z_mem 84 (by decide +kernel) (by decide +kernel)))
  obtain ⟨a1, e1, f1, g1, h1, l1⟩ := Cond.arrayClass_spec (hz (.arrayClass .long) (z_mem 179 (by decide +kernel) (by decide +kernel)))
  obtain ⟨p2, a2, e2, q2, r2, g2, h2, l2⟩ := Cond.arrayOver_spec hO0
  obtain ⟨p3, a3, e3, q3, r3, g3, h3, l3⟩ := Cond.arrayOver_spec hO2
  refine ⟨(fun k => if k = 0 then c0 else if k = 1 then c1 else if k = 2 then c2 else if k = 3 then c3 else if k = 4 then c4 else if k = 5 then c5 else if k = 6 then c6 else c7, fun k => if k = 0 then i0 else if k = 1 then i1 else if k = 2 then i2 else if k = 3 then i3 else if k = 4 then i4 else if k = 5 then i5 else if k = 6 then i6 else i7), fun k => if k = 0 then a0 else if k = 1 then a1 else if k = 2 then a2 else a3, fun k q hq => ?_, fun k q hq => ?_⟩
  · match k, hq with
    | 0, hq => cases hq; exact k0
    | 1, hq => cases hq; exact k1
    | 2, hq => cases hq; exact k2
    | 3, hq => cases hq; exact k3
    | 4, hq => cases hq; exact k4
    | 5, hq => cases hq; exact k5
    | 6, hq => cases hq; exact k6
    | 7, hq => cases hq; exact k7
    | k + 8, hq => exact absurd (List.getElem?_eq_some_iff.mp hq).1 (by show ¬ k + 8 < 8; omega)
  · match k, hq with
    | 0, hq => cases hq; exact ⟨fun n z => ⟨fun k h => (by cases h), e0, h0, f0, l0⟩, g0⟩
    | 1, hq => cases hq; exact ⟨fun n z => ⟨fun k h => (by cases h), e1, h1, f1, l1⟩, g1⟩
    | 2, hq => cases hq; exact ⟨fun n z => ⟨fun k h => (by cases h), e2, g2, p2, h2⟩, e2, p2, g2, h2, q2, l2⟩
    | 3, hq => cases hq; exact ⟨fun n z => ⟨fun k h => (by cases h), e3, g3, p3, h3⟩, e3, p3, g3, h3, q3, l3⟩
    | k + 4, hq => exact absurd (List.getElem?_eq_some_iff.mp hq).1 (by show ¬ k + 4 < 4; omega)
