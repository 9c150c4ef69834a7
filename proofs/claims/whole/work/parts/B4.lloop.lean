/-! ===== the law's loop ===== -/
section
variable {l : Launch} {E : Ev} {b Lx : Nat} {xs : Nat → Int32}
theorem law_loop (hLx : Lx ≤ 3584) : ∀ (f k n : Nat) (G : Sh) (D : Dm) (i : Int), J k n G D → 0 ≤ i → (Lx : Int) - i < f → i ≤ 3591 → LG l E b Lx xs k n 18 i [] G D := by
  intro f
  induction f with
  | zero =>
    intro k n G D i hJ h0 hf h9
    refine go_iload_n 3 dL_law_18 rfl rfl ?_
    refine go_sload_n 0 dL_law_19 rfl rfl ?_
    refine go_slen dL_law_20 ?_
    refine go_bipush dL_law_21 (by decide) ?_
    refine go_isub dL_law_23 ?_
    refine go_icmp_gt 1654 dL_law_24 (by decide) (by omega) (by omega) (fun hgt => ?_) (fun hle => absurd hle (by omega))
    refine go_iconst dL_law_1654 ?_
    have := hJ.2.le
    exact lg_end (by omega)
  | succ f ih =>
    intro k n G D i hJ h0 hf h9
    refine go_iload_n 3 dL_law_18 rfl rfl ?_
    refine go_sload_n 0 dL_law_19 rfl rfl ?_
    refine go_slen dL_law_20 ?_
    refine go_bipush dL_law_21 (by decide) ?_
    refine go_isub dL_law_23 ?_
    refine go_icmp_gt 1654 dL_law_24 (by decide) (by omega) (by omega) (fun hgt => ?_) (fun hle => ?_)
    · refine go_iconst dL_law_1654 ?_
      have := hJ.2.le
      exact lg_end (by omega)
    · have nx : ∀ k n G D, J k n G D → LG l E b Lx xs k n 1648 i [] G D := by
        intro k n G D hJ
        refine go_iinc 3 [1, 2, 3, 0] (L' := [(0, .ref b), (1, vR E 0), (2, vR E 107), (3, vI (i + 7))]) dL_law_1648 (by decide) rfl rfl ?_
        refine go_goto 18 dL_law_1651 (by decide) ?_
        exact ih k n G D (i + 7) hJ (by omega) (by omega) (by omega)
      refine go_sload_n 0 dL_law_27 rfl rfl ?_
      refine go_iload_n 3 dL_law_28 rfl rfl ?_
      refine go_sld hLx (by omega) dL_law_29 ?_
      refine go_bipush dL_law_30 (by decide) ?_
      refine go_iand dL_law_32 ?_
      have hx := a63 (xs i.toNat).toInt
      generalize iA (xs i.toNat).toInt 63 = x at hx
      have hi : 0 ≤ i ∧ i + 7 ≤ Lx := by omega
      rcases (show x = 0 ∨ x = 1 ∨ x = 2 ∨ x = 3 ∨ x = 4 ∨ x = 5 ∨ x = 6 ∨ x = 7 ∨ x = 8 ∨ x = 9 ∨ x = 10 ∨ x = 11 ∨ x = 12 ∨ x = 13 ∨ x = 14 ∨ x = 15 ∨ x = 16 ∨ x = 17 ∨ x = 18 ∨ x = 19 ∨ x = 20 ∨ x = 21 ∨ x = 22 ∨ x = 23 ∨ x = 24 ∨ x = 25 ∨ x = 26 ∨ x = 27 ∨ x = 28 ∨ x = 29 ∨ x = 30 ∨ x = 31 ∨ x = 32 ∨ x = 33 ∨ x = 34 ∨ x = 35 ∨ x = 36 ∨ x = 37 ∨ x = 38 ∨ x = 39 ∨ x = 40 ∨ x = 41 ∨ 42 ≤ x by omega) with rfl | rfl | rfl | rfl | rfl | rfl | rfl | rfl | rfl | rfl | rfl | rfl | rfl | rfl | rfl | rfl | rfl | rfl | rfl | rfl | rfl | rfl | rfl | rfl | rfl | rfl | rfl | rfl | rfl | rfl | rfl | rfl | rfl | rfl | rfl | rfl | rfl | rfl | rfl | rfl | rfl | rfl | h
      · exact go_tableIn 0 216 dL_law_33 (by decide) (by decide) rfl (by decide) (lc_0 hJ hLx hi nx)
      · exact go_tableIn 1 229 dL_law_33 (by decide) (by decide) rfl (by decide) (lc_1 hJ hLx hi nx)
      · exact go_tableIn 2 243 dL_law_33 (by decide) (by decide) rfl (by decide) (lc_2 hJ hLx hi nx)
      · exact go_tableIn 3 257 dL_law_33 (by decide) (by decide) rfl (by decide) (lc_3 hJ hLx hi nx)
      · exact go_tableIn 4 300 dL_law_33 (by decide) (by decide) rfl (by decide) (lc_4 hJ hLx hi nx)
      · exact go_tableIn 5 373 dL_law_33 (by decide) (by decide) rfl (by decide) (lc_5 hJ hLx hi nx)
      · exact go_tableIn 6 407 dL_law_33 (by decide) (by decide) rfl (by decide) (lc_6 hJ hLx hi nx)
      · exact go_tableIn 7 470 dL_law_33 (by decide) (by decide) rfl (by decide) (lc_7 hJ hLx hi nx)
      · exact go_tableIn 8 533 dL_law_33 (by decide) (by decide) rfl (by decide) (lc_8 hJ hLx hi nx)
      · exact go_tableIn 9 556 dL_law_33 (by decide) (by decide) rfl (by decide) (lc_9 hJ hLx hi nx)
      · exact go_tableIn 10 579 dL_law_33 (by decide) (by decide) rfl (by decide) (lc_10 hJ hLx hi nx)
      · exact go_tableIn 11 602 dL_law_33 (by decide) (by decide) rfl (by decide) (lc_11 hJ hLx hi nx)
      · exact go_tableIn 12 635 dL_law_33 (by decide) (by decide) rfl (by decide) (lc_12 hJ hLx hi nx)
      · exact go_tableIn 13 668 dL_law_33 (by decide) (by decide) rfl (by decide) (lc_13 hJ hLx hi nx)
      · exact go_tableIn 14 701 dL_law_33 (by decide) (by decide) rfl (by decide) (lc_14 hJ hLx hi nx)
      · exact go_tableIn 15 734 dL_law_33 (by decide) (by decide) rfl (by decide) (lc_15 hJ hLx hi nx)
      · exact go_tableIn 16 767 dL_law_33 (by decide) (by decide) rfl (by decide) (lc_16 hJ hLx hi nx)
      · exact go_tableIn 17 800 dL_law_33 (by decide) (by decide) rfl (by decide) (lc_17 hJ hLx hi nx)
      · exact go_tableIn 18 824 dL_law_33 (by decide) (by decide) rfl (by decide) (lc_18 hJ hLx hi nx)
      · exact go_tableIn 19 857 dL_law_33 (by decide) (by decide) rfl (by decide) (lc_19 hJ hLx hi nx)
      · exact go_tableIn 20 890 dL_law_33 (by decide) (by decide) rfl (by decide) (lc_20 hJ hLx hi nx)
      · exact go_tableIn 21 933 dL_law_33 (by decide) (by decide) rfl (by decide) (lc_21 hJ hLx hi nx)
      · exact go_tableIn 22 976 dL_law_33 (by decide) (by decide) rfl (by decide) (lc_22 hJ hLx hi nx)
      · exact go_tableIn 23 1009 dL_law_33 (by decide) (by decide) rfl (by decide) (lc_23 hJ hLx hi nx)
      · exact go_tableIn 24 1042 dL_law_33 (by decide) (by decide) rfl (by decide) (lc_24 hJ hLx hi nx)
      · exact go_tableIn 25 1075 dL_law_33 (by decide) (by decide) rfl (by decide) (lc_25 hJ hLx hi nx)
      · exact go_tableIn 26 1098 dL_law_33 (by decide) (by decide) rfl (by decide) (lc_26 hJ hLx hi nx)
      · exact go_tableIn 27 1111 dL_law_33 (by decide) (by decide) rfl (by decide) (lc_27 hJ hLx hi nx)
      · exact go_tableIn 28 1144 dL_law_33 (by decide) (by decide) rfl (by decide) (lc_28 hJ hLx hi nx)
      · exact go_tableIn 29 1197 dL_law_33 (by decide) (by decide) rfl (by decide) (lc_29 hJ hLx hi nx)
      · exact go_tableIn 30 1272 dL_law_33 (by decide) (by decide) rfl (by decide) (lc_30 hJ hLx hi nx)
      · exact go_tableIn 31 1305 dL_law_33 (by decide) (by decide) rfl (by decide) (lc_31 hJ hLx hi nx)
      · exact go_tableIn 32 1358 dL_law_33 (by decide) (by decide) rfl (by decide) (lc_32 hJ hLx hi nx)
      · exact go_tableIn 33 1411 dL_law_33 (by decide) (by decide) rfl (by decide) (lc_33 hJ hLx hi nx)
      · exact go_tableIn 34 1424 dL_law_33 (by decide) (by decide) rfl (by decide) (lc_34 hJ hLx hi nx)
      · exact go_tableIn 35 1447 dL_law_33 (by decide) (by decide) rfl (by decide) (lc_35 hJ hLx hi nx)
      · exact go_tableIn 36 1470 dL_law_33 (by decide) (by decide) rfl (by decide) (lc_36 hJ hLx hi nx)
      · exact go_tableIn 37 1503 dL_law_33 (by decide) (by decide) rfl (by decide) (lc_37 hJ hLx hi nx)
      · exact go_tableIn 38 1516 dL_law_33 (by decide) (by decide) rfl (by decide) (lc_38 hJ hLx hi nx)
      · exact go_tableIn 39 1559 dL_law_33 (by decide) (by decide) rfl (by decide) (lc_39 hJ hLx hi nx)
      · exact go_tableIn 40 1622 dL_law_33 (by decide) (by decide) rfl (by decide) (lc_40 hJ hLx hi nx)
      · exact go_tableIn 41 1635 dL_law_33 (by decide) (by decide) rfl (by decide) (lc_41 hJ hLx hi nx)
      · exact go_tableOut 1648 dL_law_33 (by omega) (Or.inr (by omega)) (by decide) (nx _ _ _ _ hJ)
set_option maxRecDepth 20000 in
theorem law_body (hLx : Lx ≤ 3584) : Go l E cL_law 4 RL room_1 (PfL b Lx xs E.1) lwZ 0 0 0 [(0, .ref b)] [] ([], fun _ _ => none) (fun _ _ => 0) := by
  refine go_nO (N := 0) rfl nw_L_7 ⟨Nat.le_of_ble_eq_true rfl, Nat.le_of_ble_eq_true rfl⟩ dL_law_0 ?_
  refine go_dup rfl dL_law_3 ?_
  refine go_callI (M := MX9_init) (mc := 106) (ms := 4782) (c := 0) (as := []) (rest := [vR E 0]) mi_L_9 ⟨Nat.le_of_ble_eq_true rfl, Nat.le_of_ble_eq_true rfl⟩ ⟨Nat.le_of_ble_eq_true rfl, Nat.le_of_ble_eq_true rfl⟩ rfl rfl (Nat.le_of_ble_eq_true rfl) dL_law_4 (n_X9_init (G := GA) (D := DA) rfl GA_len) ?_
  rintro r G' D' ⟨rfl, rfl⟩
  refine go_astore_n [1, 0] (L' := [(0, .ref b), (1, vR E 0)]) dL_law_7 rfl (by decide) rfl ?_
  refine go_nO (N := 107) GB_len nw_L_10 ⟨Nat.le_of_ble_eq_true rfl, Nat.le_of_ble_eq_true rfl⟩ dL_law_8 ?_
  refine go_dup rfl dL_law_11 ?_
  refine go_callI (M := MX10_init) (mc := 17) (ms := 61520) (c := 107) (as := []) (rest := [vR E 107]) mi_L_12 ⟨Nat.le_of_ble_eq_true rfl, Nat.le_of_ble_eq_true rfl⟩ ⟨Nat.le_of_ble_eq_true rfl, Nat.le_of_ble_eq_true rfl⟩ rfl rfl (Nat.le_of_ble_eq_true rfl) dL_law_12 (n_X10_init (G := GC) (D := DC) (gr_nw GB_len) GC_len) ?_
  rintro r G' D' ⟨rfl, rfl⟩
  refine go_astore_n [1, 2, 0] (L' := [(0, .ref b), (1, vR E 0), (2, vR E 107)]) dL_law_15 rfl (by decide) rfl ?_
  refine go_iconst dL_law_16 ?_
  refine go_istore_n [1, 2, 3, 0] (L' := [(0, .ref b), (1, vR E 0), (2, vR E 107), (3, vI 0)]) dL_law_17 rfl (by decide) rfl ?_
  exact law_loop hLx 3585 125 66357 GZ DZ 0 DZ_J (by decide) (by omega) (by decide)
end
