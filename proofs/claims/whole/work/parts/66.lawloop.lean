/-! THE LAW: its loop -/
def tb_lwH : List (Nat × zI) := [(18, (.iload_n 3, (19, [3]))), (19, (.aload_n 0, (20, [0]))), (20, (.arraylength, (21, []))), (21, (.bipush 7, (23, []))), (23, (.isub, (24, []))), (24, (.if_icmp .gt 1131, (27, [1155]))), (27, (.aload_n 0, (28, [0]))), (28, (.iload_n 3, (29, [3]))), (29, (.iaload, (30, []))), (30, (.bipush 31, (32, []))), (32, (.iand, (33, []))), (33, (.tableswitch 1116 0 30 #[139, 172, 195, 228, 251, 284, 317, 380, 393, 406, 429, 452, 495, 529, 552, 565, 588, 641, 684, 717, 740, 763, 776, 809, 822, 835, 848, 924, 967, 990, 1073], (172, [1149, 172, 205, 228, 261, 284, 317, 350, 413, 426, 439, 462, 485, 528, 562, 585, 598, 621, 674, 717, 750, 773, 796, 809, 842, 855, 868, 881, 957, 1000, 1023, 1106]))), (1149, (.iinc 3 7, (1152, [3]))), (1152, (.goto (-1134), (1155, [18]))), (1155, (.iconst 1, (1156, []))), (1156, (.ireturn, (1157, [])))]
theorem tb_lwH_k : tb_lwH.all (z_ent code 4) = true := by decide +kernel
theorem tb_lwH_l : tb_lwH.all (fun q => z_lwi q.2.1) = true := by decide +kernel
theorem lw_loop {sc : Nat × (Int → Int)} {G : zG} (hL : zLaw sc G) (hs : ∀ j : Int, -2147483648 ≤ sc.2 j ∧ sc.2 j ≤ 2147483647) (h2 : (sc.1 : Int) ≤ 3584) : ∀ (d : Nat) (i : Int), 0 ≤ i → i ≤ 3584 → (sc.1 : Int) < i + 7 * d + 7 → ∀ wF wM, zInv wF wM → G 18 (zLs i) [] (zLW wF wM) := by
  intro d
  induction d with
  | zero =>
    intro i h0 hi hd wF wM hI
    obtain ⟨-, -, lF, lM⟩ := zInv_in hI
    have hz : z_g (zLW wF wM) 9999 = none := z_gno (by rw [zLW_len lF lM]; omega)
    refine hL.1 tb_lwH tb_lwH_k tb_lwH_l [] 80 _ _ _ _ hz ?_
    exact ⟨by omega, (fun _ => rfl), (fun q => absurd q (by omega))⟩
  | succ d ih =>
    intro i h0 hi hd wF wM hI
    obtain ⟨-, -, lF, lM⟩ := zInv_in hI
    have hz : z_g (zLW wF wM) 9999 = none := z_gno (by rw [zLW_len lF lM]; omega)
    refine hL.1 tb_lwH tb_lwH_k tb_lwH_l [18, 1149, 172, 205, 228, 261, 284, 317, 350, 413, 426, 439, 462, 485, 528, 562, 585, 598, 621, 674, 717, 750, 773, 796, 809, 842, 855, 868, 881, 957, 1000, 1023, 1106] 80 _ _ _ _ hz ?_
    refine ⟨by omega, (fun q => ?_), (fun q => ?_)⟩
    · exact rfl
    have h1 : i + 6 < (sc.1 : Int) := by omega
    have kk : ∀ wa wb, zInv wa wb → G 1149 (zLs i) [] (zLW wa wb) := fun wa wb hI2 => by
      obtain ⟨-, -, lF, lM⟩ := zInv_in hI2
      have hz : z_g (zLW wa wb) 9999 = none := z_gno (by rw [zLW_len lF lM]; omega)
      exact hL.1 tb_lwH tb_lwH_k tb_lwH_l [18] 80 _ _ _ _ hz (ih (i + 7) (by omega) (by omega) (by omega) wa wb hI2)
    refine ⟨by omega, z_and_in _ _, (fun _ => kk wF wM hI), ?_⟩
    exact ⟨(fun _ => lc_0 hL hs h0 h1 h2 hI kk), (fun _ => lc_1 hL hs h0 h1 h2 hI kk), (fun _ => lc_2 hL hs h0 h1 h2 hI kk), (fun _ => lc_3 hL hs h0 h1 h2 hI kk), (fun _ => lc_4 hL hs h0 h1 h2 hI kk), (fun _ => lc_5 hL hs h0 h1 h2 hI kk), (fun _ => lc_6 hL hs h0 h1 h2 hI kk), (fun _ => lc_7 hL hs h0 h1 h2 hI kk), (fun _ => lc_8 hL hs h0 h1 h2 hI kk), (fun _ => lc_9 hL hs h0 h1 h2 hI kk), (fun _ => lc_10 hL hs h0 h1 h2 hI kk), (fun _ => lc_11 hL hs h0 h1 h2 hI kk), (fun _ => lc_12 hL hs h0 h1 h2 hI kk), (fun _ => lc_13 hL hs h0 h1 h2 hI kk), (fun _ => lc_14 hL hs h0 h1 h2 hI kk), (fun _ => lc_15 hL hs h0 h1 h2 hI kk), (fun _ => lc_16 hL hs h0 h1 h2 hI kk), (fun _ => lc_17 hL hs h0 h1 h2 hI kk), (fun _ => lc_18 hL hs h0 h1 h2 hI kk), (fun _ => lc_19 hL hs h0 h1 h2 hI kk), (fun _ => lc_20 hL hs h0 h1 h2 hI kk), (fun _ => lc_21 hL hs h0 h1 h2 hI kk), (fun _ => lc_22 hL hs h0 h1 h2 hI kk), (fun _ => lc_23 hL hs h0 h1 h2 hI kk), (fun _ => lc_24 hL hs h0 h1 h2 hI kk), (fun _ => lc_25 hL hs h0 h1 h2 hI kk), (fun _ => lc_26 hL hs h0 h1 h2 hI kk), (fun _ => lc_27 hL hs h0 h1 h2 hI kk), (fun _ => lc_28 hL hs h0 h1 h2 hI kk), (fun _ => lc_29 hL hs h0 h1 h2 hI kk), (fun _ => lc_30 hL hs h0 h1 h2 hI kk), trivial⟩
