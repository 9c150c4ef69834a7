theorem s_X10_status {l : Launch} {E : Ev} {Q : Int → Sh → Dm → Prop} {G : Sh} {D : Dm} (hL : Lay G)  (h : Q (D 107 1) G D) : Ct l E MX10_status 0 0 0 [vR E 107] G D Q := by
  refine Ct.of (by decide) (Nat.le_of_ble_eq_true rfl) ?_
  show KX10_status l E Q 0 [(0, vR E 107)] G D
  refine go_aload_n 0 dX10_status_0 rfl rfl ?_
  refine go_getI 1 (i := 1) f_X10_82 rfl (hL.1 107 _ rfl) dX10_status_1 ?_
  exact go_ireturn (Nat.le_refl _) (Nat.le_refl _) rfl dX10_status_4 h
theorem p_X10_status {l : Launch} {E : Ev} {G : Sh} {D : Dm} (hL : Lay G)   : C0 l E MX10_status 0 [vR E 107] G D (fun r D' => r = (D 107 1) ∧ D' = D) := s_X10_status hL ⟨rfl, rfl, rfl⟩
theorem s_X10_top {l : Launch} {E : Ev} {Q : Int → Sh → Dm → Prop} {G : Sh} {D : Dm} (hL : Lay G)  (h : Q (D 107 2) G D) : Ct l E MX10_top 1 0 0 [vR E 107] G D Q := by
  refine Ct.of (by decide) (Nat.le_of_ble_eq_true rfl) ?_
  show KX10_top l E Q 0 [(0, vR E 107)] G D
  refine go_aload_n 0 dX10_top_0 rfl rfl ?_
  refine go_getJ 2 (i := 2) f_X10_85 rfl (hL.1 107 _ rfl) dX10_top_1 ?_
  exact go_lreturn (Nat.le_refl _) (Nat.le_refl _) rfl dX10_top_4 h
theorem p_X10_top {l : Launch} {E : Ev} {G : Sh} {D : Dm} (hL : Lay G)   : C0 l E MX10_top 1 [vR E 107] G D (fun r D' => r = (D 107 2) ∧ D' = D) := s_X10_top hL ⟨rfl, rfl, rfl⟩
theorem s_X10_bottom {l : Launch} {E : Ev} {Q : Int → Sh → Dm → Prop} {G : Sh} {D : Dm} (hL : Lay G)  (h : Q (D 107 3) G D) : Ct l E MX10_bottom 1 0 0 [vR E 107] G D Q := by
  refine Ct.of (by decide) (Nat.le_of_ble_eq_true rfl) ?_
  show KX10_bottom l E Q 0 [(0, vR E 107)] G D
  refine go_aload_n 0 dX10_bottom_0 rfl rfl ?_
  refine go_getJ 3 (i := 3) f_X10_13 rfl (hL.1 107 _ rfl) dX10_bottom_1 ?_
  exact go_lreturn (Nat.le_refl _) (Nat.le_refl _) rfl dX10_bottom_4 h
theorem p_X10_bottom {l : Launch} {E : Ev} {G : Sh} {D : Dm} (hL : Lay G)   : C0 l E MX10_bottom 1 [vR E 107] G D (fun r D' => r = (D 107 3) ∧ D' = D) := s_X10_bottom hL ⟨rfl, rfl, rfl⟩
theorem s_X10_is {l : Launch} {E : Ev} {Q : Int → Sh → Dm → Prop} {G : Sh} {D : Dm} (hL : Lay G) {v1 : Int}  (h : ((-2147483648 ≤ v1 ∧ v1 < 2147483648)) ∧ ((v1 ≠ 0 → Q 0 G (upd2 D 107 1 v1)) ∧ (v1 = 0 → Q 1 G (upd2 D 107 1 v1)))) : Ct l E MX10_is 0 0 0 [vR E 107, vI v1] G D Q := by
  refine Ct.of (by decide) (Nat.le_of_ble_eq_true rfl) ?_
  show KX10_is l E Q 0 [(0, vR E 107), (1, vI v1)] G D
  obtain ⟨s1, h⟩ := h
  refine go_aload_n 0 dX10_is_0 rfl rfl ?_
  refine go_iload_n 1 dX10_is_1 rfl rfl ?_
  refine go_putI 1 (i := 1) s1 f_X10_82 rfl (hL.1 107 _ rfl) dX10_is_2 ?_
  refine go_iload_n 1 dX10_is_5 rfl rfl ?_
  refine go_if_ne 13 dX10_is_6 (by decide) s1 (fun c2 => ?_) (fun c2 => ?_)
  · have h := h.1 c2
    refine go_iconst dX10_is_13 ?_
    exact go_zreturn (Nat.le_refl _) (Nat.le_refl _) rfl (by decide) dX10_is_14 h
  · have h := h.2 c2
    refine go_iconst dX10_is_9 ?_
    refine go_goto 14 dX10_is_10 (by decide) ?_
    exact go_zreturn (Nat.le_refl _) (Nat.le_refl _) rfl (by decide) dX10_is_14 h
theorem p_X10_is {l : Launch} {E : Ev} {G : Sh} {D : Dm} (hL : Lay G) {v1 : Int}  (q0 : -2147483648 ≤ v1 ∧ v1 < 2147483648) : C0 l E MX10_is 0 [vR E 107, vI v1] G D (fun r D' => r = (if (v1 = 0) then 1 else 0) ∧ D' = (upd2 D 107 1 v1)) := by
  refine s_X10_is hL ?_
  refine ⟨q0, ?_⟩
  refine ⟨fun hc => ?_, fun hc => ?_⟩
  · refine ⟨rfl, ?_, rfl⟩
    (split <;> first | rfl | (exfalso; simp_all; done) | omega | simp_all)
  · refine ⟨rfl, ?_, rfl⟩
    (split <;> first | rfl | (exfalso; simp_all; done) | omega | simp_all)
theorem s_X10_refuse {l : Launch} {E : Ev} {Q : Int → Sh → Dm → Prop} {G : Sh} {D : Dm} (hL : Lay G) {v1 : Int}  (h : ((-2147483648 ≤ v1 ∧ v1 < 2147483648)) ∧ Q (-1) G (upd2 D 107 1 v1)) : Ct l E MX10_refuse 0 0 0 [vR E 107, vI v1] G D Q := by
  refine Ct.of (by decide) (Nat.le_of_ble_eq_true rfl) ?_
  show KX10_refuse l E Q 0 [(0, vR E 107), (1, vI v1)] G D
  obtain ⟨s1, h⟩ := h
  refine go_aload_n 0 dX10_refuse_0 rfl rfl ?_
  refine go_iload_n 1 dX10_refuse_1 rfl rfl ?_
  refine go_putI 1 (i := 1) s1 f_X10_82 rfl (hL.1 107 _ rfl) dX10_refuse_2 ?_
  refine go_iconst dX10_refuse_5 ?_
  exact go_ireturn (Nat.le_refl _) (Nat.le_refl _) rfl dX10_refuse_6 h
theorem p_X10_refuse {l : Launch} {E : Ev} {G : Sh} {D : Dm} (hL : Lay G) {v1 : Int}  (q0 : -2147483648 ≤ v1 ∧ v1 < 2147483648) : C0 l E MX10_refuse 0 [vR E 107, vI v1] G D (fun r D' => r = (-1) ∧ D' = (upd2 D 107 1 v1)) := s_X10_refuse hL ⟨q0, ⟨rfl, rfl, rfl⟩⟩
theorem s_X10_gives {l : Launch} {E : Ev} {Q : Int → Sh → Dm → Prop} {G : Sh} {D : Dm} (hL : Lay G) {v1 : Int}  (h : Q v1 G (upd2 D 107 1 0)) : Ct l E MX10_gives 0 0 0 [vR E 107, vI v1] G D Q := by
  refine Ct.of (by decide) (Nat.le_of_ble_eq_true rfl) ?_
  show KX10_gives l E Q 0 [(0, vR E 107), (1, vI v1)] G D
  refine go_aload_n 0 dX10_gives_0 rfl rfl ?_
  refine go_iconst dX10_gives_1 ?_
  refine go_putI 1 (i := 1) (by decide) f_X10_82 rfl (hL.1 107 _ rfl) dX10_gives_2 ?_
  refine go_iload_n 1 dX10_gives_5 rfl rfl ?_
  exact go_ireturn (Nat.le_refl _) (Nat.le_refl _) rfl dX10_gives_6 h
theorem p_X10_gives {l : Launch} {E : Ev} {G : Sh} {D : Dm} (hL : Lay G) {v1 : Int}   : C0 l E MX10_gives 0 [vR E 107, vI v1] G D (fun r D' => r = v1 ∧ D' = (upd2 D 107 1 0)) := s_X10_gives hL ⟨rfl, rfl, rfl⟩
theorem s_X10_givesLong {l : Launch} {E : Ev} {Q : Int → Sh → Dm → Prop} {G : Sh} {D : Dm} (hL : Lay G) {v1 : Int}  (h : Q v1 G (upd2 D 107 1 0)) : Ct l E MX10_givesLong 1 0 0 [vR E 107, vJ v1] G D Q := by
  refine Ct.of (by decide) (Nat.le_of_ble_eq_true rfl) ?_
  show KX10_givesLong l E Q 0 [(0, vR E 107), (1, vJ v1)] G D
  refine go_aload_n 0 dX10_givesLong_0 rfl rfl ?_
  refine go_iconst dX10_givesLong_1 ?_
  refine go_putI 1 (i := 1) (by decide) f_X10_82 rfl (hL.1 107 _ rfl) dX10_givesLong_2 ?_
  refine go_lload_n 1 dX10_givesLong_5 rfl rfl ?_
  exact go_lreturn (Nat.le_refl _) (Nat.le_refl _) rfl dX10_givesLong_6 h
theorem p_X10_givesLong {l : Launch} {E : Ev} {G : Sh} {D : Dm} (hL : Lay G) {v1 : Int}   : C0 l E MX10_givesLong 1 [vR E 107, vJ v1] G D (fun r D' => r = v1 ∧ D' = (upd2 D 107 1 0)) := s_X10_givesLong hL ⟨rfl, rfl, rfl⟩
theorem s_X10_tells {l : Launch} {E : Ev} {Q : Int → Sh → Dm → Prop} {G : Sh} {D : Dm} (hL : Lay G) {v1 v3 : Int}  (h : ((-9223372036854775808 ≤ v1 ∧ v1 < 9223372036854775808)) ∧ ((0 ≤ v1 → KX10_tells l E Q 17 [(0, vR E 107), (1, vJ v1), (3, vJ v3), (5, vJ v1), (7, vJ v3)] G D) ∧ (v1 < 0 → KX10_tells l E Q 17 [(0, vR E 107), (1, vJ v1), (3, vJ v3), (5, vJ (-v1)), (7, vJ v3)] G D))) : Ct l E MX10_tells 0 0 0 [vR E 107, vJ v1, vJ v3] G D Q := by
  refine Ct.of (by decide) (Nat.le_of_ble_eq_true rfl) ?_
  show KX10_tells l E Q 0 [(0, vR E 107), (1, vJ v1), (3, vJ v3)] G D
  obtain ⟨s1, h⟩ := h
  refine go_lload_n 1 dX10_tells_0 rfl rfl ?_
  refine go_lconst (x := 0) dX10_tells_1 rfl ?_
  refine go_lcmp_ge 11 dX10_tells_2 dX10_tells_3 (by decide) s1 (by decide) (fun c2 => ?_) (fun c2 => ?_)
  · have h := h.1 c2
    refine go_lload_n 1 dX10_tells_11 rfl rfl ?_
    refine go_lstore [1, 2, 3, 0] (L' := [(0, vR E 107), (1, vJ v1), (3, vJ v3), (5, vJ v1)]) dX10_tells_12 (by decide) rfl ?_
    refine go_lload_n 2 dX10_tells_14 rfl rfl ?_
    refine go_lstore [1, 2, 3, 4, 0] (L' := [(0, vR E 107), (1, vJ v1), (3, vJ v3), (5, vJ v1), (7, vJ v3)]) dX10_tells_15 (by decide) rfl ?_
    exact h
  · have h := h.2 c2
    refine go_lload_n 1 dX10_tells_6 rfl rfl ?_
    refine go_lneg dX10_tells_7 ?_
    refine go_goto 12 dX10_tells_8 (by decide) ?_
    refine go_lstore [1, 2, 3, 0] (L' := [(0, vR E 107), (1, vJ v1), (3, vJ v3), (5, vJ (-v1))]) dX10_tells_12 (by decide) rfl ?_
    refine go_lload_n 2 dX10_tells_14 rfl rfl ?_
    refine go_lstore [1, 2, 3, 4, 0] (L' := [(0, vR E 107), (1, vJ v1), (3, vJ v3), (5, vJ (-v1)), (7, vJ v3)]) dX10_tells_15 (by decide) rfl ?_
    exact h
theorem s_X10_tells_17 {l : Launch} {E : Ev} {Q : Int → Sh → Dm → Prop} {G : Sh} {D : Dm} (hL : Lay G) {v1 v3 v5 v7 : Int}  (h : ((-9223372036854775808 ≤ v7 ∧ v7 < 9223372036854775808)) ∧ ((v7 = 0 → ((-9223372036854775808 ≤ v1 ∧ v1 < 9223372036854775808) ∧ (0 < v5 ∧ v5 < 9223372036854775808) ∧ (-9223372036854775808 ≤ (Int.tdiv v1 v5) ∧ (Int.tdiv v1 v5) < 9223372036854775808) ∧ (-9223372036854775808 ≤ v3 ∧ v3 < 9223372036854775808) ∧ (-9223372036854775808 ≤ (Int.tdiv v3 v5) ∧ (Int.tdiv v3 v5) < 9223372036854775808)) ∧ Q 1 G (upd2 (upd2 (upd2 D 107 2 (Int.tdiv v1 v5)) 107 3 (Int.tdiv v3 v5)) 107 1 0)) ∧ (v7 ≠ 0 → ((-9223372036854775808 ≤ v5 ∧ v5 < 9223372036854775808) ∧ (0 < v7 ∧ v7 < 9223372036854775808)) ∧ KX10_tells l E Q 17 [(0, vR E 107), (1, vJ v1), (3, vJ v3), (5, vJ v7), (7, vJ (Int.tmod v5 v7))] G D))) : KX10_tells l E Q 17 [(0, vR E 107), (1, vJ v1), (3, vJ v3), (5, vJ v5), (7, vJ v7)] G D := by
  obtain ⟨s1, h⟩ := h
  refine go_lload 4 dX10_tells_17 rfl ?_
  refine go_lconst (x := 0) dX10_tells_19 rfl ?_
  refine go_lcmp_eq 42 dX10_tells_20 dX10_tells_21 (by decide) s1 (by decide) (fun c2 => ?_) (fun c2 => ?_)
  · have h := h.1 c2
    obtain ⟨s3, h⟩ := h
    refine go_aload_n 0 dX10_tells_42 rfl rfl ?_
    refine go_lload_n 1 dX10_tells_43 rfl rfl ?_
    refine go_lload 3 dX10_tells_44 rfl ?_
    refine go_ldiv ⟨s3.1, s3.2.1⟩ dX10_tells_46 ?_
    refine go_putJ 2 (i := 2) s3.2.2.1 f_X10_85 rfl (hL.1 107 _ rfl) dX10_tells_47 ?_
    refine go_aload_n 0 dX10_tells_50 rfl rfl ?_
    refine go_lload_n 2 dX10_tells_51 rfl rfl ?_
    refine go_lload 3 dX10_tells_52 rfl ?_
    refine go_ldiv ⟨s3.2.2.2.1, s3.2.1⟩ dX10_tells_54 ?_
    refine go_putJ 3 (i := 3) s3.2.2.2.2 f_X10_13 rfl (hL.1 107 _ rfl) dX10_tells_55 ?_
    refine go_aload_n 0 dX10_tells_58 rfl rfl ?_
    refine go_iconst dX10_tells_59 ?_
    refine go_vIp (M := MX10_is) [vI 0] [] mv_X10_88 (hL.1 107 _ rfl) rfl (by decide) ⟨Nat.le_of_ble_eq_true rfl, Nat.le_of_ble_eq_true rfl⟩ ⟨Nat.le_refl _, Nat.le_refl _⟩ rfl rfl (Nat.le_of_ble_eq_true rfl) dX10_tells_60 (p_X10_is hL (by decide)) ?_
    exact go_zreturn (Nat.le_refl _) (Nat.le_refl _) rfl (by decide) dX10_tells_63 h
  · have h := h.2 c2
    obtain ⟨s5, h⟩ := h
    refine go_lload 3 dX10_tells_24 rfl ?_
    refine go_lload 4 dX10_tells_26 rfl ?_
    refine go_lrem ⟨s5.1, s5.2⟩ dX10_tells_28 ?_
    refine go_lstore [1, 2, 3, 4, 5, 0] (L' := [(0, vR E 107), (1, vJ v1), (3, vJ v3), (5, vJ v5), (7, vJ v7), (9, vJ (Int.tmod v5 v7))]) dX10_tells_29 (by decide) rfl ?_
    refine go_lload 4 dX10_tells_31 rfl ?_
    refine go_lstore [1, 2, 3, 0, 4, 5] (L' := [(0, vR E 107), (1, vJ v1), (3, vJ v3), (5, vJ v7), (7, vJ v7), (9, vJ (Int.tmod v5 v7))]) dX10_tells_33 (by decide) rfl ?_
    refine go_lload 5 dX10_tells_35 rfl ?_
    refine go_lstore [1, 2, 3, 4, 0, 5] (L' := [(0, vR E 107), (1, vJ v1), (3, vJ v3), (5, vJ v7), (7, vJ (Int.tmod v5 v7)), (9, vJ (Int.tmod v5 v7))]) dX10_tells_37 (by decide) rfl ?_
    refine go_goto 17 dX10_tells_39 (by decide) ?_
    refine go_sub [0, 1, 2, 3, 4] (L' := [(0, vR E 107), (1, vJ v1), (3, vJ v3), (5, vJ v7), (7, vJ (Int.tmod v5 v7))]) rfl ?_
    exact h
theorem s_X10_isTray {l : Launch} {E : Ev} {Q : Int → Sh → Dm → Prop} {G : Sh} {D : Dm} (hL : Lay G) {v0 : Int}  (h : ((-2147483648 ≤ v0 ∧ v0 < 2147483648)) ∧ ((v0 < 0 → Q 0 G D) ∧ (0 ≤ v0 → ((4 ≤ v0 → Q 0 G D) ∧ (v0 < 4 → Q 1 G D))))) : Ct l E MX10_isTray 0 0 0 [vI v0] G D Q := by
  refine Ct.of (by decide) (Nat.le_of_ble_eq_true rfl) ?_
  show KX10_isTray l E Q 0 [(0, vI v0)] G D
  obtain ⟨s1, h⟩ := h
  refine go_iload_n 0 dX10_isTray_0 rfl rfl ?_
  refine go_if_lt 13 dX10_isTray_1 (by decide) s1 (fun c2 => ?_) (fun c2 => ?_)
  · have h := h.1 c2
    refine go_iconst dX10_isTray_13 ?_
    exact go_zreturn (Nat.le_refl _) (Nat.le_refl _) rfl (by decide) dX10_isTray_14 h
  · have h := h.2 c2
    refine go_iload_n 0 dX10_isTray_4 rfl rfl ?_
    refine go_iconst dX10_isTray_5 ?_
    refine go_icmp_ge 13 dX10_isTray_6 (by decide) s1 (by decide) (fun c5 => ?_) (fun c5 => ?_)
    · have h := h.1 c5
      refine go_iconst dX10_isTray_13 ?_
      exact go_zreturn (Nat.le_refl _) (Nat.le_refl _) rfl (by decide) dX10_isTray_14 h
    · have h := h.2 c5
      refine go_iconst dX10_isTray_9 ?_
      refine go_goto 14 dX10_isTray_10 (by decide) ?_
      exact go_zreturn (Nat.le_refl _) (Nat.le_refl _) rfl (by decide) dX10_isTray_14 h
theorem p_X10_isTray {l : Launch} {E : Ev} {G : Sh} {D : Dm} (hL : Lay G) {v0 : Int}  (q0 : -2147483648 ≤ v0 ∧ v0 < 2147483648) : C0 l E MX10_isTray 0 [vI v0] G D (fun r D' => r = (if ((0 ≤ v0) ∧ (v0 < 4)) then 1 else 0) ∧ D' = D) := by
  refine s_X10_isTray hL ?_
  refine ⟨q0, ?_⟩
  refine ⟨fun hc => ?_, fun hc => ?_⟩
  · refine ⟨rfl, ?_, rfl⟩
    (split <;> first | rfl | (exfalso; simp_all; done) | omega | simp_all)
  · refine ⟨fun hc => ?_, fun hc => ?_⟩
    · refine ⟨rfl, ?_, rfl⟩
      (split <;> first | rfl | (exfalso; simp_all; done) | omega | simp_all)
    · refine ⟨rfl, ?_, rfl⟩
      (split <;> first | rfl | (exfalso; simp_all; done) | omega | simp_all)
theorem s_X10_cut {l : Launch} {E : Ev} {Q : Int → Sh → Dm → Prop} {G : Sh} {D : Dm} (hL : Lay G) {v0 v2 : Int}  (h : ((-2147483648 ≤ v2 ∧ v2 < 2147483648)) ∧ ((v2 ≠ 0 → ((v2 ≠ 1 → ((v2 ≠ 2 → Q v0 G D) ∧ (v2 = 2 → ((-2147483648 ≤ v0 ∧ v0 < 2147483648)) ∧ Q v0 G D))) ∧ (v2 = 1 → Q (s16 v0) G D))) ∧ (v2 = 0 → Q (b8 v0) G D))) : Ct l E MX10_cut 1 0 0 [vJ v0, vI v2] G D Q := by
  refine Ct.of (by decide) (Nat.le_of_ble_eq_true rfl) ?_
  show KX10_cut l E Q 0 [(0, vJ v0), (2, vI v2)] G D
  obtain ⟨s1, h⟩ := h
  refine go_iload_n 1 dX10_cut_0 rfl rfl ?_
  refine go_if_ne 11 dX10_cut_1 (by decide) s1 (fun c2 => ?_) (fun c2 => ?_)
  · have h := h.1 c2
    refine go_iload_n 1 dX10_cut_11 rfl rfl ?_
    refine go_iconst dX10_cut_12 ?_
    refine go_icmp_ne 23 dX10_cut_13 (by decide) s1 (by decide) (fun c4 => ?_) (fun c4 => ?_)
    · have h := h.1 c4
      refine go_iload_n 1 dX10_cut_23 rfl rfl ?_
      refine go_iconst dX10_cut_24 ?_
      refine go_icmp_ne 34 dX10_cut_25 (by decide) s1 (by decide) (fun c6 => ?_) (fun c6 => ?_)
      · have h := h.1 c6
        refine go_lload_n 0 dX10_cut_34 rfl rfl ?_
        exact go_lreturn (Nat.le_refl _) (Nat.le_refl _) rfl dX10_cut_35 h
      · have h := h.2 c6
        obtain ⟨s8, h⟩ := h
        refine go_lload_n 0 dX10_cut_28 rfl rfl ?_
        refine go_l2i dX10_cut_29 ?_
        refine go_i2l s8 dX10_cut_30 ?_
        refine go_goto 35 dX10_cut_31 (by decide) ?_
        exact go_lreturn (Nat.le_refl _) (Nat.le_refl _) rfl dX10_cut_35 h
    · have h := h.2 c4
      refine go_lload_n 0 dX10_cut_16 rfl rfl ?_
      refine go_l2i dX10_cut_17 ?_
      refine go_i2s dX10_cut_18 ?_
      refine go_i2l (rs16I _) dX10_cut_19 ?_
      refine go_goto 35 dX10_cut_20 (by decide) ?_
      exact go_lreturn (Nat.le_refl _) (Nat.le_refl _) rfl dX10_cut_35 h
  · have h := h.2 c2
    refine go_lload_n 0 dX10_cut_4 rfl rfl ?_
    refine go_l2i dX10_cut_5 ?_
    refine go_i2b dX10_cut_6 ?_
    refine go_i2l (rb8I _) dX10_cut_7 ?_
    refine go_goto 35 dX10_cut_8 (by decide) ?_
    exact go_lreturn (Nat.le_refl _) (Nat.le_refl _) rfl dX10_cut_35 h
theorem s_X10_tray {l : Launch} {E : Ev} {Q : Int → Sh → Dm → Prop} {G : Sh} {D : Dm} (hL : Lay G) {v1 v2 v3 : Int}  (h : ((-2147483648 ≤ v1 ∧ v1 < 2147483648)) ∧ ((¬ ((0 ≤ v1) ∧ (v1 < 4)) → Q 0 G (upd2 D 107 1 1)) ∧ (((0 ≤ v1) ∧ (v1 < 4)) → ((-2147483648 ≤ v2 ∧ v2 < 2147483648)) ∧ ((v2 < 0 → Q 0 G (upd2 D 107 1 1)) ∧ (0 ≤ v2 → ((3 < v2 → Q 0 G (upd2 D 107 1 1)) ∧ (v2 ≤ 3 → ((-2147483648 ≤ v3 ∧ v3 < 2147483648)) ∧ ((v3 < 0 → Q 0 G (upd2 D 107 1 1)) ∧ (0 ≤ v3 → ((v3 ≤ 60 → ((0 ≤ v1 ∧ v1 < 4)) ∧ KX10_tray l E Q 49 [(0, vR E 107), (1, vI v1), (2, vI v2), (3, vI v3), (4, vI 0)] G (upd2 (upd2 D 109 v1 v2) 110 v1 v3)) ∧ (60 < v3 → Q 0 G (upd2 D 107 1 1)))))))))))) : Ct l E MX10_tray 0 0 0 [vR E 107, vI v1, vI v2, vI v3] G D Q := by
  refine Ct.of (by decide) (Nat.le_of_ble_eq_true rfl) ?_
  show KX10_tray l E Q 0 [(0, vR E 107), (1, vI v1), (2, vI v2), (3, vI v3)] G D
  obtain ⟨s1, h⟩ := h
  refine go_iload_n 1 dX10_tray_0 rfl rfl ?_
  refine go_sIp (M := MX10_isTray) [vI v1] [] ms_X10_92 ⟨Nat.le_of_ble_eq_true rfl, Nat.le_of_ble_eq_true rfl⟩ ⟨Nat.le_refl _, Nat.le_refl _⟩ rfl rfl (Nat.le_of_ble_eq_true rfl) dX10_tray_1 (p_X10_isTray hL s1) ?_
  refine go_ifb_eq 26 dX10_tray_4 (by decide) (fun c3 => ?_) (fun c3 => ?_)
  · have h := h.1 c3
    refine go_aload_n 0 dX10_tray_26 rfl rfl ?_
    refine go_iconst dX10_tray_27 ?_
    refine go_vIp (M := MX10_is) [vI 1] [] mv_X10_88 (hL.1 107 _ rfl) rfl (by decide) ⟨Nat.le_of_ble_eq_true rfl, Nat.le_of_ble_eq_true rfl⟩ ⟨Nat.le_refl _, Nat.le_refl _⟩ rfl rfl (Nat.le_of_ble_eq_true rfl) dX10_tray_28 (p_X10_is hL (by decide)) ?_
    exact go_zreturn (Nat.le_refl _) (Nat.le_refl _) rfl (by decide) dX10_tray_31 h
  · have h := h.2 c3
    obtain ⟨s6, h⟩ := h
    refine go_iload_n 2 dX10_tray_7 rfl rfl ?_
    refine go_if_lt 26 dX10_tray_8 (by decide) s6 (fun c7 => ?_) (fun c7 => ?_)
    · have h := h.1 c7
      refine go_aload_n 0 dX10_tray_26 rfl rfl ?_
      refine go_iconst dX10_tray_27 ?_
      refine go_vIp (M := MX10_is) [vI 1] [] mv_X10_88 (hL.1 107 _ rfl) rfl (by decide) ⟨Nat.le_of_ble_eq_true rfl, Nat.le_of_ble_eq_true rfl⟩ ⟨Nat.le_refl _, Nat.le_refl _⟩ rfl rfl (Nat.le_of_ble_eq_true rfl) dX10_tray_28 (p_X10_is hL (by decide)) ?_
      exact go_zreturn (Nat.le_refl _) (Nat.le_refl _) rfl (by decide) dX10_tray_31 h
    · have h := h.2 c7
      refine go_iload_n 2 dX10_tray_11 rfl rfl ?_
      refine go_iconst dX10_tray_12 ?_
      refine go_icmp_gt 26 dX10_tray_13 (by decide) s6 (by decide) (fun c11 => ?_) (fun c11 => ?_)
      · have h := h.1 c11
        refine go_aload_n 0 dX10_tray_26 rfl rfl ?_
        refine go_iconst dX10_tray_27 ?_
        refine go_vIp (M := MX10_is) [vI 1] [] mv_X10_88 (hL.1 107 _ rfl) rfl (by decide) ⟨Nat.le_of_ble_eq_true rfl, Nat.le_of_ble_eq_true rfl⟩ ⟨Nat.le_refl _, Nat.le_refl _⟩ rfl rfl (Nat.le_of_ble_eq_true rfl) dX10_tray_28 (p_X10_is hL (by decide)) ?_
        exact go_zreturn (Nat.le_refl _) (Nat.le_refl _) rfl (by decide) dX10_tray_31 h
      · have h := h.2 c11
        obtain ⟨s14, h⟩ := h
        refine go_iload_n 3 dX10_tray_16 rfl rfl ?_
        refine go_if_lt 26 dX10_tray_17 (by decide) s14 (fun c15 => ?_) (fun c15 => ?_)
        · have h := h.1 c15
          refine go_aload_n 0 dX10_tray_26 rfl rfl ?_
          refine go_iconst dX10_tray_27 ?_
          refine go_vIp (M := MX10_is) [vI 1] [] mv_X10_88 (hL.1 107 _ rfl) rfl (by decide) ⟨Nat.le_of_ble_eq_true rfl, Nat.le_of_ble_eq_true rfl⟩ ⟨Nat.le_refl _, Nat.le_refl _⟩ rfl rfl (Nat.le_of_ble_eq_true rfl) dX10_tray_28 (p_X10_is hL (by decide)) ?_
          exact go_zreturn (Nat.le_refl _) (Nat.le_refl _) rfl (by decide) dX10_tray_31 h
        · have h := h.2 c15
          refine go_iload_n 3 dX10_tray_20 rfl rfl ?_
          refine go_bipush dX10_tray_21 (by decide) ?_
          refine go_icmp_le 32 dX10_tray_23 (by decide) s14 (by decide) (fun c19 => ?_) (fun c19 => ?_)
          · have h := h.1 c19
            obtain ⟨s20, h⟩ := h
            refine go_aload_n 0 dX10_tray_32 rfl rfl ?_
            refine go_getR 4 f_X10_17 rfl (hL.1 107 _ rfl) (hL.2.1 107 4 _ rfl (by decide)) dX10_tray_33 ?_
            refine go_iload_n 1 dX10_tray_36 rfl rfl ?_
            refine go_iload_n 2 dX10_tray_37 rfl rfl ?_
            refine go_iastore (hL.1 109 _ rfl) (b := 4) rfl (by decide) s20 s6 dX10_tray_38 ?_
            refine go_aload_n 0 dX10_tray_39 rfl rfl ?_
            refine go_getR 5 f_X10_20 rfl (hL.1 107 _ rfl) (hL.2.1 107 5 _ rfl (by decide)) dX10_tray_40 ?_
            refine go_iload_n 1 dX10_tray_43 rfl rfl ?_
            refine go_iload_n 3 dX10_tray_44 rfl rfl ?_
            refine go_iastore (hL.1 110 _ rfl) (b := 4) rfl (by decide) s20 s14 dX10_tray_45 ?_
            refine go_iconst dX10_tray_46 ?_
            refine go_istore [1, 2, 3, 4, 0] (L' := [(0, vR E 107), (1, vI v1), (2, vI v2), (3, vI v3), (4, vI 0)]) dX10_tray_47 (by decide) rfl ?_
            exact h
          · have h := h.2 c19
            refine go_aload_n 0 dX10_tray_26 rfl rfl ?_
            refine go_iconst dX10_tray_27 ?_
            refine go_vIp (M := MX10_is) [vI 1] [] mv_X10_88 (hL.1 107 _ rfl) rfl (by decide) ⟨Nat.le_of_ble_eq_true rfl, Nat.le_of_ble_eq_true rfl⟩ ⟨Nat.le_refl _, Nat.le_refl _⟩ rfl rfl (Nat.le_of_ble_eq_true rfl) dX10_tray_28 (p_X10_is hL (by decide)) ?_
            exact go_zreturn (Nat.le_refl _) (Nat.le_refl _) rfl (by decide) dX10_tray_31 h
theorem s_X10_tray_49 {l : Launch} {E : Ev} {Q : Int → Sh → Dm → Prop} {G : Sh} {D : Dm} (hL : Lay G) {v1 v2 v3 v4 : Int}  (h : ((-2147483648 ≤ v4 ∧ v4 < 2147483648) ∧ (-2147483648 ≤ v3 ∧ v3 < 2147483648)) ∧ ((v3 ≤ v4 → Q 1 G (upd2 D 107 1 0)) ∧ (v4 < v3 → ((0 ≤ ((60 * v1) + v4) ∧ ((60 * v1) + v4) < 240)) ∧ KX10_tray l E Q 49 [(0, vR E 107), (1, vI v1), (2, vI v2), (3, vI v3), (4, vI (v4 + 1))] G (upd2 D 111 ((60 * v1) + v4) 0)))) : KX10_tray l E Q 49 [(0, vR E 107), (1, vI v1), (2, vI v2), (3, vI v3), (4, vI v4)] G D := by
  obtain ⟨s1, h⟩ := h
  refine go_iload 4 dX10_tray_49 rfl ?_
  refine go_iload_n 3 dX10_tray_51 rfl rfl ?_
  refine go_icmp_ge 74 dX10_tray_52 (by decide) s1.1 s1.2 (fun c2 => ?_) (fun c2 => ?_)
  · have h := h.1 c2
    refine go_aload_n 0 dX10_tray_74 rfl rfl ?_
    refine go_iconst dX10_tray_75 ?_
    refine go_vIp (M := MX10_is) [vI 0] [] mv_X10_88 (hL.1 107 _ rfl) rfl (by decide) ⟨Nat.le_of_ble_eq_true rfl, Nat.le_of_ble_eq_true rfl⟩ ⟨Nat.le_refl _, Nat.le_refl _⟩ rfl rfl (Nat.le_of_ble_eq_true rfl) dX10_tray_76 (p_X10_is hL (by decide)) ?_
    exact go_zreturn (Nat.le_refl _) (Nat.le_refl _) rfl (by decide) dX10_tray_79 h
  · have h := h.2 c2
    obtain ⟨s5, h⟩ := h
    refine go_aload_n 0 dX10_tray_55 rfl rfl ?_
    refine go_getR 6 f_X10_23 rfl (hL.1 107 _ rfl) (hL.2.1 107 6 _ rfl (by decide)) dX10_tray_56 ?_
    refine go_bipush dX10_tray_59 (by decide) ?_
    refine go_iload_n 1 dX10_tray_61 rfl rfl ?_
    refine go_imul dX10_tray_62 ?_
    refine go_iload 4 dX10_tray_63 rfl ?_
    refine go_iadd dX10_tray_65 ?_
    refine go_lconst (x := 0) dX10_tray_66 rfl ?_
    refine go_lastore (hL.1 111 _ rfl) (b := 240) rfl (by decide) s5 (by decide) dX10_tray_67 ?_
    refine go_iinc 4 [1, 2, 3, 4, 0] (L' := [(0, vR E 107), (1, vI v1), (2, vI v2), (3, vI v3), (4, vI (v4 + 1))]) dX10_tray_68 (by decide) rfl rfl ?_
    refine go_goto 49 dX10_tray_71 (by decide) ?_
    exact h
theorem s_X10_wrongPlace {l : Launch} {E : Ev} {Q : Int → Sh → Dm → Prop} {G : Sh} {D : Dm} (hL : Lay G) {v1 v2 : Int}  (h : ((-2147483648 ≤ v1 ∧ v1 < 2147483648)) ∧ ((((0 ≤ v1) ∧ (v1 < 4)) → ((0 ≤ v1 ∧ v1 < 4)) ∧ (((D 110 v1) ≠ (-1) → ((-2147483648 ≤ v2 ∧ v2 < 2147483648)) ∧ ((v2 < 0 → Q 3 G D) ∧ (0 ≤ v2 → ((v2 < (D 110 v1) → Q 0 G D) ∧ ((D 110 v1) ≤ v2 → Q 3 G D))))) ∧ ((D 110 v1) = (-1) → Q 2 G D))) ∧ (¬ ((0 ≤ v1) ∧ (v1 < 4)) → Q 1 G D))) : Ct l E MX10_wrongPlace 0 0 0 [vR E 107, vI v1, vI v2] G D Q := by
  refine Ct.of (by decide) (Nat.le_of_ble_eq_true rfl) ?_
  show KX10_wrongPlace l E Q 0 [(0, vR E 107), (1, vI v1), (2, vI v2)] G D
  obtain ⟨s1, h⟩ := h
  refine go_iload_n 1 dX10_wrongPlace_0 rfl rfl ?_
  refine go_sIp (M := MX10_isTray) [vI v1] [] ms_X10_92 ⟨Nat.le_of_ble_eq_true rfl, Nat.le_of_ble_eq_true rfl⟩ ⟨Nat.le_refl _, Nat.le_refl _⟩ rfl rfl (Nat.le_of_ble_eq_true rfl) dX10_wrongPlace_1 (p_X10_isTray hL s1) ?_
  refine go_ifb_ne 11 dX10_wrongPlace_4 (by decide) (fun c3 => ?_) (fun c3 => ?_)
  · have h := h.1 c3
    obtain ⟨s4, h⟩ := h
    refine go_aload_n 0 dX10_wrongPlace_11 rfl rfl ?_
    refine go_getR 5 f_X10_20 rfl (hL.1 107 _ rfl) (hL.2.1 107 5 _ rfl (by decide)) dX10_wrongPlace_12 ?_
    refine go_iload_n 1 dX10_wrongPlace_15 rfl rfl ?_
    refine go_iaload (hL.1 110 _ rfl) (b := 4) rfl (by decide) s4 dX10_wrongPlace_16 ?_
    refine go_iconst dX10_wrongPlace_17 ?_
    refine go_rngI (c := 110) (i := v1) (hL.1 110 _ rfl) rfl (fun (q5 : -2147483648 ≤ (D 110 v1) ∧ (D 110 v1) < 2147483648) => ?_)
    refine go_icmp_ne 25 dX10_wrongPlace_18 (by decide) q5 (by decide) (fun c6 => ?_) (fun c6 => ?_)
    · have h := h.1 c6
      obtain ⟨s7, h⟩ := h
      refine go_iload_n 2 dX10_wrongPlace_25 rfl rfl ?_
      refine go_if_lt 39 dX10_wrongPlace_26 (by decide) s7 (fun c8 => ?_) (fun c8 => ?_)
      · have h := h.1 c8
        refine go_iconst dX10_wrongPlace_39 ?_
        refine go_goto 44 dX10_wrongPlace_40 (by decide) ?_
        exact go_ireturn (Nat.le_refl _) (Nat.le_refl _) rfl dX10_wrongPlace_44 h
      · have h := h.2 c8
        refine go_iload_n 2 dX10_wrongPlace_29 rfl rfl ?_
        refine go_aload_n 0 dX10_wrongPlace_30 rfl rfl ?_
        refine go_getR 5 f_X10_20 rfl (hL.1 107 _ rfl) (hL.2.1 107 5 _ rfl (by decide)) dX10_wrongPlace_31 ?_
        refine go_iload_n 1 dX10_wrongPlace_34 rfl rfl ?_
        refine go_iaload (hL.1 110 _ rfl) (b := 4) rfl (by decide) s4 dX10_wrongPlace_35 ?_
        refine go_icmp_lt 43 dX10_wrongPlace_36 (by decide) s7 q5 (fun c11 => ?_) (fun c11 => ?_)
        · have h := h.1 c11
          refine go_iconst dX10_wrongPlace_43 ?_
          exact go_ireturn (Nat.le_refl _) (Nat.le_refl _) rfl dX10_wrongPlace_44 h
        · have h := h.2 c11
          refine go_iconst dX10_wrongPlace_39 ?_
          refine go_goto 44 dX10_wrongPlace_40 (by decide) ?_
          exact go_ireturn (Nat.le_refl _) (Nat.le_refl _) rfl dX10_wrongPlace_44 h
    · have h := h.2 c6
      refine go_iconst dX10_wrongPlace_21 ?_
      refine go_goto 44 dX10_wrongPlace_22 (by decide) ?_
      exact go_ireturn (Nat.le_refl _) (Nat.le_refl _) rfl dX10_wrongPlace_44 h
  · have h := h.2 c3
    refine go_iconst dX10_wrongPlace_7 ?_
    refine go_goto 44 dX10_wrongPlace_8 (by decide) ?_
    exact go_ireturn (Nat.le_refl _) (Nat.le_refl _) rfl dX10_wrongPlace_44 h
theorem s_X10_write {l : Launch} {E : Ev} {Q : Int → Sh → Dm → Prop} {G : Sh} {D : Dm} (hL : Lay G) {v1 v2 v3 : Int}  (h : C0 l E MX10_wrongPlace 0 [vR E 107, vI v1, vI v2] G D (fun r2 D2 => ((-2147483648 ≤ r2 ∧ r2 < 2147483648)) ∧ ((r2 ≠ 0 → Q (if (r2 = 0) then 1 else 0) G (upd2 D2 107 1 r2)) ∧ (r2 = 0 → ((0 ≤ v1 ∧ v1 < 4)) ∧ C0 l E MX10_cut 1 [vJ v3, vI (D2 109 v1)] G D2 (fun r8 D8 => ((0 ≤ ((60 * v1) + v2) ∧ ((60 * v1) + v2) < 240) ∧ (-9223372036854775808 ≤ r8 ∧ r8 < 9223372036854775808)) ∧ Q (if (r2 = 0) then 1 else 0) G (upd2 (upd2 D8 111 ((60 * v1) + v2) r8) 107 1 r2)))))) : Ct l E MX10_write 0 0 0 [vR E 107, vI v1, vI v2, vJ v3] G D Q := by
  refine Ct.of (by decide) (Nat.le_of_ble_eq_true rfl) ?_
  show KX10_write l E Q 0 [(0, vR E 107), (1, vI v1), (2, vI v2), (3, vJ v3)] G D
  refine go_aload_n 0 dX10_write_0 rfl rfl ?_
  refine go_iload_n 1 dX10_write_1 rfl rfl ?_
  refine go_iload_n 2 dX10_write_2 rfl rfl ?_
  refine go_vI (M := MX10_wrongPlace) [vI v1, vI v2] [] mv_X10_95 (hL.1 107 _ rfl) rfl (by decide) ⟨Nat.le_of_ble_eq_true rfl, Nat.le_of_ble_eq_true rfl⟩ ⟨Nat.le_refl _, Nat.le_refl _⟩ rfl rfl (Nat.le_of_ble_eq_true rfl) dX10_write_3 h (fun r2 D2 h => ?_)
  obtain ⟨s3, h⟩ := h
  refine go_istore [1, 2, 3, 4, 0] (L' := [(0, vR E 107), (1, vI v1), (2, vI v2), (3, vJ v3), (5, vI r2)]) dX10_write_6 (by decide) rfl ?_
  refine go_iload 4 dX10_write_8 rfl ?_
  refine go_if_ne 34 dX10_write_10 (by decide) s3 (fun c4 => ?_) (fun c4 => ?_)
  · have h := h.1 c4
    refine go_aload_n 0 dX10_write_34 rfl rfl ?_
    refine go_iload 4 dX10_write_35 rfl ?_
    refine go_vIp (M := MX10_is) [vI r2] [] mv_X10_88 (hL.1 107 _ rfl) rfl (by decide) ⟨Nat.le_of_ble_eq_true rfl, Nat.le_of_ble_eq_true rfl⟩ ⟨Nat.le_refl _, Nat.le_refl _⟩ rfl rfl (Nat.le_of_ble_eq_true rfl) dX10_write_37 (p_X10_is hL s3) ?_
    exact go_zreturn (Nat.le_refl _) (Nat.le_refl _) rfl (b01 _) dX10_write_40 h
  · have h := h.2 c4
    obtain ⟨s7, h⟩ := h
    refine go_aload_n 0 dX10_write_13 rfl rfl ?_
    refine go_getR 6 f_X10_23 rfl (hL.1 107 _ rfl) (hL.2.1 107 6 _ rfl (by decide)) dX10_write_14 ?_
    refine go_bipush dX10_write_17 (by decide) ?_
    refine go_iload_n 1 dX10_write_19 rfl rfl ?_
    refine go_imul dX10_write_20 ?_
    refine go_iload_n 2 dX10_write_21 rfl rfl ?_
    refine go_iadd dX10_write_22 ?_
    refine go_lload_n 3 dX10_write_23 rfl rfl ?_
    refine go_aload_n 0 dX10_write_24 rfl rfl ?_
    refine go_getR 4 f_X10_17 rfl (hL.1 107 _ rfl) (hL.2.1 107 4 _ rfl (by decide)) dX10_write_25 ?_
    refine go_iload_n 1 dX10_write_28 rfl rfl ?_
    refine go_iaload (hL.1 109 _ rfl) (b := 4) rfl (by decide) s7 dX10_write_29 ?_
    refine go_sJ (M := MX10_cut) [vJ v3, vI (D2 109 v1)] [vI ((60 * v1) + v2), vR E 111] ms_X10_99 ⟨Nat.le_of_ble_eq_true rfl, Nat.le_of_ble_eq_true rfl⟩ ⟨Nat.le_refl _, Nat.le_refl _⟩ rfl rfl (Nat.le_of_ble_eq_true rfl) dX10_write_30 h (fun r8 D8 h => ?_)
    obtain ⟨s9, h⟩ := h
    refine go_lastore (hL.1 111 _ rfl) (b := 240) rfl (by decide) s9.1 s9.2 dX10_write_33 ?_
    refine go_aload_n 0 dX10_write_34 rfl rfl ?_
    refine go_iload 4 dX10_write_35 rfl ?_
    refine go_vIp (M := MX10_is) [vI r2] [] mv_X10_88 (hL.1 107 _ rfl) rfl (by decide) ⟨Nat.le_of_ble_eq_true rfl, Nat.le_of_ble_eq_true rfl⟩ ⟨Nat.le_refl _, Nat.le_refl _⟩ rfl rfl (Nat.le_of_ble_eq_true rfl) dX10_write_37 (p_X10_is hL s3) ?_
    exact go_zreturn (Nat.le_refl _) (Nat.le_refl _) rfl (b01 _) dX10_write_40 h
theorem s_X10_read {l : Launch} {E : Ev} {Q : Int → Sh → Dm → Prop} {G : Sh} {D : Dm} (hL : Lay G) {v1 v2 : Int}  (h : C0 l E MX10_wrongPlace 0 [vR E 107, vI v1, vI v2] G D (fun r2 D2 => ((-2147483648 ≤ r2 ∧ r2 < 2147483648)) ∧ ((r2 ≤ 0 → ((0 ≤ ((60 * v1) + v2) ∧ ((60 * v1) + v2) < 240)) ∧ Q (D2 111 ((60 * v1) + v2)) G (upd2 D2 107 1 r2)) ∧ (0 < r2 → Q (-1) G (upd2 D2 107 1 r2))))) : Ct l E MX10_read 1 0 0 [vR E 107, vI v1, vI v2] G D Q := by
  refine Ct.of (by decide) (Nat.le_of_ble_eq_true rfl) ?_
  show KX10_read l E Q 0 [(0, vR E 107), (1, vI v1), (2, vI v2)] G D
  refine go_aload_n 0 dX10_read_0 rfl rfl ?_
  refine go_aload_n 0 dX10_read_1 rfl rfl ?_
  refine go_iload_n 1 dX10_read_2 rfl rfl ?_
  refine go_iload_n 2 dX10_read_3 rfl rfl ?_
  refine go_vI (M := MX10_wrongPlace) [vI v1, vI v2] [vR E 107] mv_X10_95 (hL.1 107 _ rfl) rfl (by decide) ⟨Nat.le_of_ble_eq_true rfl, Nat.le_of_ble_eq_true rfl⟩ ⟨Nat.le_refl _, Nat.le_refl _⟩ rfl rfl (Nat.le_of_ble_eq_true rfl) dX10_read_4 h (fun r2 D2 h => ?_)
  obtain ⟨s3, h⟩ := h
  refine go_putI 1 (i := 1) s3 f_X10_82 rfl (hL.1 107 _ rfl) dX10_read_7 ?_
  refine go_aload_n 0 dX10_read_10 rfl rfl ?_
  refine go_getI 1 (i := 1) f_X10_82 rfl (hL.1 107 _ rfl) dX10_read_11 ?_
  refine go_if_le 23 dX10_read_14 (by decide) s3 (fun c4 => ?_) (fun c4 => ?_)
  · have h := h.1 c4
    obtain ⟨s5, h⟩ := h
    refine go_aload_n 0 dX10_read_23 rfl rfl ?_
    refine go_getR 6 f_X10_23 rfl (hL.1 107 _ rfl) (hL.2.1 107 6 _ rfl (by decide)) dX10_read_24 ?_
    refine go_bipush dX10_read_27 (by decide) ?_
    refine go_iload_n 1 dX10_read_29 rfl rfl ?_
    refine go_imul dX10_read_30 ?_
    refine go_iload_n 2 dX10_read_31 rfl rfl ?_
    refine go_iadd dX10_read_32 ?_
    refine go_laload (hL.1 111 _ rfl) (b := 240) rfl (by decide) s5 dX10_read_33 ?_
    exact go_lreturn (Nat.le_refl _) (Nat.le_refl _) rfl dX10_read_34 h
  · have h := h.2 c4
    refine go_ldc2 (x := (-1)) k_X10_103 dX10_read_17 ?_
    refine go_goto 34 dX10_read_20 (by decide) ?_
    exact go_lreturn (Nat.le_refl _) (Nat.le_refl _) rfl dX10_read_34 h
theorem s_X10_pour {l : Launch} {E : Ev} {Q : Int → Sh → Dm → Prop} {G : Sh} {D : Dm} (hL : Lay G) {v1 v2 v3 v4 v5 : Int}  (h : ((-2147483648 ≤ v1 ∧ v1 < 2147483648)) ∧ ((¬ ((0 ≤ v1) ∧ (v1 < 4)) → Q 0 G (upd2 D 107 1 1)) ∧ (((0 ≤ v1) ∧ (v1 < 4)) → ((-2147483648 ≤ v3 ∧ v3 < 2147483648)) ∧ ((¬ ((0 ≤ v3) ∧ (v3 < 4)) → Q 0 G (upd2 D 107 1 1)) ∧ (((0 ≤ v3) ∧ (v3 < 4)) → ((-2147483648 ≤ v2 ∧ v2 < 2147483648)) ∧ ((v2 < 0 → Q 0 G (upd2 D 107 1 1)) ∧ (0 ≤ v2 → ((-2147483648 ≤ v4 ∧ v4 < 2147483648)) ∧ ((v4 < 0 → Q 0 G (upd2 D 107 1 1)) ∧ (0 ≤ v4 → ((-2147483648 ≤ v5 ∧ v5 < 2147483648)) ∧ ((0 ≤ v5 → ((0 ≤ v1 ∧ v1 < 4)) ∧ (((D 110 v1) = (-1) → Q 0 G (upd2 D 107 1 2)) ∧ ((D 110 v1) ≠ (-1) → ((0 ≤ v3 ∧ v3 < 4)) ∧ (((D 110 v3) ≠ (-1) → (((D 109 v1) = (D 109 v3) → ((-2147483648 ≤ ((D 110 v1) - v2) ∧ ((D 110 v1) - v2) < 2147483648)) ∧ ((((D 110 v1) - v2) < v5 → Q 0 G (upd2 D 107 1 3)) ∧ (v5 ≤ ((D 110 v1) - v2) → ((-2147483648 ≤ ((D 110 v3) - v4) ∧ ((D 110 v3) - v4) < 2147483648)) ∧ ((v5 ≤ ((D 110 v3) - v4) → KX10_pour l E Q 118 [(0, vR E 107), (1, vI v1), (2, vI v2), (3, vI v3), (4, vI v4), (5, vI v5), (6, vI 0)] G D) ∧ (((D 110 v3) - v4) < v5 → Q 0 G (upd2 D 107 1 3)))))) ∧ ((D 109 v1) ≠ (D 109 v3) → Q 0 G (upd2 D 107 1 8)))) ∧ ((D 110 v3) = (-1) → Q 0 G (upd2 D 107 1 2)))))) ∧ (v5 < 0 → Q 0 G (upd2 D 107 1 1)))))))))))) : Ct l E MX10_pour 0 0 0 [vR E 107, vI v1, vI v2, vI v3, vI v4, vI v5] G D Q := by
  refine Ct.of (by decide) (Nat.le_of_ble_eq_true rfl) ?_
  show KX10_pour l E Q 0 [(0, vR E 107), (1, vI v1), (2, vI v2), (3, vI v3), (4, vI v4), (5, vI v5)] G D
  obtain ⟨s1, h⟩ := h
  refine go_iload_n 1 dX10_pour_0 rfl rfl ?_
  refine go_sIp (M := MX10_isTray) [vI v1] [] ms_X10_92 ⟨Nat.le_of_ble_eq_true rfl, Nat.le_of_ble_eq_true rfl⟩ ⟨Nat.le_refl _, Nat.le_refl _⟩ rfl rfl (Nat.le_of_ble_eq_true rfl) dX10_pour_1 (p_X10_isTray hL s1) ?_
  refine go_ifb_eq 28 dX10_pour_4 (by decide) (fun c3 => ?_) (fun c3 => ?_)
  · have h := h.1 c3
    refine go_aload_n 0 dX10_pour_28 rfl rfl ?_
    refine go_iconst dX10_pour_29 ?_
    refine go_vIp (M := MX10_is) [vI 1] [] mv_X10_88 (hL.1 107 _ rfl) rfl (by decide) ⟨Nat.le_of_ble_eq_true rfl, Nat.le_of_ble_eq_true rfl⟩ ⟨Nat.le_refl _, Nat.le_refl _⟩ rfl rfl (Nat.le_of_ble_eq_true rfl) dX10_pour_30 (p_X10_is hL (by decide)) ?_
    exact go_zreturn (Nat.le_refl _) (Nat.le_refl _) rfl (by decide) dX10_pour_33 h
  · have h := h.2 c3
    obtain ⟨s6, h⟩ := h
    refine go_iload_n 3 dX10_pour_7 rfl rfl ?_
    refine go_sIp (M := MX10_isTray) [vI v3] [] ms_X10_92 ⟨Nat.le_of_ble_eq_true rfl, Nat.le_of_ble_eq_true rfl⟩ ⟨Nat.le_refl _, Nat.le_refl _⟩ rfl rfl (Nat.le_of_ble_eq_true rfl) dX10_pour_8 (p_X10_isTray hL s6) ?_
    refine go_ifb_eq 28 dX10_pour_11 (by decide) (fun c8 => ?_) (fun c8 => ?_)
    · have h := h.1 c8
      refine go_aload_n 0 dX10_pour_28 rfl rfl ?_
      refine go_iconst dX10_pour_29 ?_
      refine go_vIp (M := MX10_is) [vI 1] [] mv_X10_88 (hL.1 107 _ rfl) rfl (by decide) ⟨Nat.le_of_ble_eq_true rfl, Nat.le_of_ble_eq_true rfl⟩ ⟨Nat.le_refl _, Nat.le_refl _⟩ rfl rfl (Nat.le_of_ble_eq_true rfl) dX10_pour_30 (p_X10_is hL (by decide)) ?_
      exact go_zreturn (Nat.le_refl _) (Nat.le_refl _) rfl (by decide) dX10_pour_33 h
    · have h := h.2 c8
      obtain ⟨s11, h⟩ := h
      refine go_iload_n 2 dX10_pour_14 rfl rfl ?_
      refine go_if_lt 28 dX10_pour_15 (by decide) s11 (fun c12 => ?_) (fun c12 => ?_)
      · have h := h.1 c12
        refine go_aload_n 0 dX10_pour_28 rfl rfl ?_
        refine go_iconst dX10_pour_29 ?_
        refine go_vIp (M := MX10_is) [vI 1] [] mv_X10_88 (hL.1 107 _ rfl) rfl (by decide) ⟨Nat.le_of_ble_eq_true rfl, Nat.le_of_ble_eq_true rfl⟩ ⟨Nat.le_refl _, Nat.le_refl _⟩ rfl rfl (Nat.le_of_ble_eq_true rfl) dX10_pour_30 (p_X10_is hL (by decide)) ?_
        exact go_zreturn (Nat.le_refl _) (Nat.le_refl _) rfl (by decide) dX10_pour_33 h
      · have h := h.2 c12
        obtain ⟨s15, h⟩ := h
        refine go_iload 4 dX10_pour_18 rfl ?_
        refine go_if_lt 28 dX10_pour_20 (by decide) s15 (fun c16 => ?_) (fun c16 => ?_)
        · have h := h.1 c16
          refine go_aload_n 0 dX10_pour_28 rfl rfl ?_
          refine go_iconst dX10_pour_29 ?_
          refine go_vIp (M := MX10_is) [vI 1] [] mv_X10_88 (hL.1 107 _ rfl) rfl (by decide) ⟨Nat.le_of_ble_eq_true rfl, Nat.le_of_ble_eq_true rfl⟩ ⟨Nat.le_refl _, Nat.le_refl _⟩ rfl rfl (Nat.le_of_ble_eq_true rfl) dX10_pour_30 (p_X10_is hL (by decide)) ?_
          exact go_zreturn (Nat.le_refl _) (Nat.le_refl _) rfl (by decide) dX10_pour_33 h
        · have h := h.2 c16
          obtain ⟨s19, h⟩ := h
          refine go_iload 5 dX10_pour_23 rfl ?_
          refine go_if_ge 34 dX10_pour_25 (by decide) s19 (fun c20 => ?_) (fun c20 => ?_)
          · have h := h.1 c20
            obtain ⟨s21, h⟩ := h
            refine go_aload_n 0 dX10_pour_34 rfl rfl ?_
            refine go_getR 5 f_X10_20 rfl (hL.1 107 _ rfl) (hL.2.1 107 5 _ rfl (by decide)) dX10_pour_35 ?_
            refine go_iload_n 1 dX10_pour_38 rfl rfl ?_
            refine go_iaload (hL.1 110 _ rfl) (b := 4) rfl (by decide) s21 dX10_pour_39 ?_
            refine go_iconst dX10_pour_40 ?_
            refine go_rngI (c := 110) (i := v1) (hL.1 110 _ rfl) rfl (fun (q22 : -2147483648 ≤ (D 110 v1) ∧ (D 110 v1) < 2147483648) => ?_)
            refine go_icmp_eq 54 dX10_pour_41 (by decide) q22 (by decide) (fun c23 => ?_) (fun c23 => ?_)
            · have h := h.1 c23
              refine go_aload_n 0 dX10_pour_54 rfl rfl ?_
              refine go_iconst dX10_pour_55 ?_
              refine go_vIp (M := MX10_is) [vI 2] [] mv_X10_88 (hL.1 107 _ rfl) rfl (by decide) ⟨Nat.le_of_ble_eq_true rfl, Nat.le_of_ble_eq_true rfl⟩ ⟨Nat.le_refl _, Nat.le_refl _⟩ rfl rfl (Nat.le_of_ble_eq_true rfl) dX10_pour_56 (p_X10_is hL (by decide)) ?_
              exact go_zreturn (Nat.le_refl _) (Nat.le_refl _) rfl (by decide) dX10_pour_59 h
            · have h := h.2 c23
              obtain ⟨s26, h⟩ := h
              refine go_aload_n 0 dX10_pour_44 rfl rfl ?_
              refine go_getR 5 f_X10_20 rfl (hL.1 107 _ rfl) (hL.2.1 107 5 _ rfl (by decide)) dX10_pour_45 ?_
              refine go_iload_n 3 dX10_pour_48 rfl rfl ?_
              refine go_iaload (hL.1 110 _ rfl) (b := 4) rfl (by decide) s26 dX10_pour_49 ?_
              refine go_iconst dX10_pour_50 ?_
              refine go_rngI (c := 110) (i := v3) (hL.1 110 _ rfl) rfl (fun (q27 : -2147483648 ≤ (D 110 v3) ∧ (D 110 v3) < 2147483648) => ?_)
              refine go_icmp_ne 60 dX10_pour_51 (by decide) q27 (by decide) (fun c28 => ?_) (fun c28 => ?_)
              · have h := h.1 c28
                refine go_aload_n 0 dX10_pour_60 rfl rfl ?_
                refine go_getR 4 f_X10_17 rfl (hL.1 107 _ rfl) (hL.2.1 107 4 _ rfl (by decide)) dX10_pour_61 ?_
                refine go_iload_n 1 dX10_pour_64 rfl rfl ?_
                refine go_iaload (hL.1 109 _ rfl) (b := 4) rfl (by decide) s21 dX10_pour_65 ?_
                refine go_aload_n 0 dX10_pour_66 rfl rfl ?_
                refine go_getR 4 f_X10_17 rfl (hL.1 107 _ rfl) (hL.2.1 107 4 _ rfl (by decide)) dX10_pour_67 ?_
                refine go_iload_n 3 dX10_pour_70 rfl rfl ?_
                refine go_iaload (hL.1 109 _ rfl) (b := 4) rfl (by decide) s26 dX10_pour_71 ?_
                refine go_rngI (c := 109) (i := v1) (hL.1 109 _ rfl) rfl (fun (q30 : -2147483648 ≤ (D 109 v1) ∧ (D 109 v1) < 2147483648) => ?_)
                refine go_rngI (c := 109) (i := v3) (hL.1 109 _ rfl) rfl (fun (q31 : -2147483648 ≤ (D 109 v3) ∧ (D 109 v3) < 2147483648) => ?_)
                refine go_icmp_eq 82 dX10_pour_72 (by decide) q30 q31 (fun c32 => ?_) (fun c32 => ?_)
                · have h := h.1 c32
                  obtain ⟨s33, h⟩ := h
                  refine go_iload 5 dX10_pour_82 rfl ?_
                  refine go_aload_n 0 dX10_pour_84 rfl rfl ?_
                  refine go_getR 5 f_X10_20 rfl (hL.1 107 _ rfl) (hL.2.1 107 5 _ rfl (by decide)) dX10_pour_85 ?_
                  refine go_iload_n 1 dX10_pour_88 rfl rfl ?_
                  refine go_iaload (hL.1 110 _ rfl) (b := 4) rfl (by decide) s21 dX10_pour_89 ?_
                  refine go_iload_n 2 dX10_pour_90 rfl rfl ?_
                  refine go_isub dX10_pour_91 ?_
                  refine go_icmp_gt 109 dX10_pour_92 (by decide) s19 s33 (fun c34 => ?_) (fun c34 => ?_)
                  · have h := h.1 c34
                    refine go_aload_n 0 dX10_pour_109 rfl rfl ?_
                    refine go_iconst dX10_pour_110 ?_
                    refine go_vIp (M := MX10_is) [vI 3] [] mv_X10_88 (hL.1 107 _ rfl) rfl (by decide) ⟨Nat.le_of_ble_eq_true rfl, Nat.le_of_ble_eq_true rfl⟩ ⟨Nat.le_refl _, Nat.le_refl _⟩ rfl rfl (Nat.le_of_ble_eq_true rfl) dX10_pour_111 (p_X10_is hL (by decide)) ?_
                    exact go_zreturn (Nat.le_refl _) (Nat.le_refl _) rfl (by decide) dX10_pour_114 h
                  · have h := h.2 c34
                    obtain ⟨s37, h⟩ := h
                    refine go_iload 5 dX10_pour_95 rfl ?_
                    refine go_aload_n 0 dX10_pour_97 rfl rfl ?_
                    refine go_getR 5 f_X10_20 rfl (hL.1 107 _ rfl) (hL.2.1 107 5 _ rfl (by decide)) dX10_pour_98 ?_
                    refine go_iload_n 3 dX10_pour_101 rfl rfl ?_
                    refine go_iaload (hL.1 110 _ rfl) (b := 4) rfl (by decide) s26 dX10_pour_102 ?_
                    refine go_iload 4 dX10_pour_103 rfl ?_
                    refine go_isub dX10_pour_105 ?_
                    refine go_icmp_le 115 dX10_pour_106 (by decide) s19 s37 (fun c38 => ?_) (fun c38 => ?_)
                    · have h := h.1 c38
                      refine go_iconst dX10_pour_115 ?_
                      refine go_istore [1, 2, 3, 4, 5, 6, 0] (L' := [(0, vR E 107), (1, vI v1), (2, vI v2), (3, vI v3), (4, vI v4), (5, vI v5), (6, vI 0)]) dX10_pour_116 (by decide) rfl ?_
                      exact h
                    · have h := h.2 c38
                      refine go_aload_n 0 dX10_pour_109 rfl rfl ?_
                      refine go_iconst dX10_pour_110 ?_
                      refine go_vIp (M := MX10_is) [vI 3] [] mv_X10_88 (hL.1 107 _ rfl) rfl (by decide) ⟨Nat.le_of_ble_eq_true rfl, Nat.le_of_ble_eq_true rfl⟩ ⟨Nat.le_refl _, Nat.le_refl _⟩ rfl rfl (Nat.le_of_ble_eq_true rfl) dX10_pour_111 (p_X10_is hL (by decide)) ?_
                      exact go_zreturn (Nat.le_refl _) (Nat.le_refl _) rfl (by decide) dX10_pour_114 h
                · have h := h.2 c32
                  refine go_aload_n 0 dX10_pour_75 rfl rfl ?_
                  refine go_bipush dX10_pour_76 (by decide) ?_
                  refine go_vIp (M := MX10_is) [vI 8] [] mv_X10_88 (hL.1 107 _ rfl) rfl (by decide) ⟨Nat.le_of_ble_eq_true rfl, Nat.le_of_ble_eq_true rfl⟩ ⟨Nat.le_refl _, Nat.le_refl _⟩ rfl rfl (Nat.le_of_ble_eq_true rfl) dX10_pour_78 (p_X10_is hL (by decide)) ?_
                  exact go_zreturn (Nat.le_refl _) (Nat.le_refl _) rfl (by decide) dX10_pour_81 h
              · have h := h.2 c28
                refine go_aload_n 0 dX10_pour_54 rfl rfl ?_
                refine go_iconst dX10_pour_55 ?_
                refine go_vIp (M := MX10_is) [vI 2] [] mv_X10_88 (hL.1 107 _ rfl) rfl (by decide) ⟨Nat.le_of_ble_eq_true rfl, Nat.le_of_ble_eq_true rfl⟩ ⟨Nat.le_refl _, Nat.le_refl _⟩ rfl rfl (Nat.le_of_ble_eq_true rfl) dX10_pour_56 (p_X10_is hL (by decide)) ?_
                exact go_zreturn (Nat.le_refl _) (Nat.le_refl _) rfl (by decide) dX10_pour_59 h
          · have h := h.2 c20
            refine go_aload_n 0 dX10_pour_28 rfl rfl ?_
            refine go_iconst dX10_pour_29 ?_
            refine go_vIp (M := MX10_is) [vI 1] [] mv_X10_88 (hL.1 107 _ rfl) rfl (by decide) ⟨Nat.le_of_ble_eq_true rfl, Nat.le_of_ble_eq_true rfl⟩ ⟨Nat.le_refl _, Nat.le_refl _⟩ rfl rfl (Nat.le_of_ble_eq_true rfl) dX10_pour_30 (p_X10_is hL (by decide)) ?_
            exact go_zreturn (Nat.le_refl _) (Nat.le_refl _) rfl (by decide) dX10_pour_33 h
theorem s_X10_pour_118 {l : Launch} {E : Ev} {Q : Int → Sh → Dm → Prop} {G : Sh} {D : Dm} (hL : Lay G) {v1 v2 v3 v4 v5 v6 : Int}  (h : ((-2147483648 ≤ v6 ∧ v6 < 2147483648) ∧ (-2147483648 ≤ v5 ∧ v5 < 2147483648)) ∧ ((v5 ≤ v6 → Q 1 G (upd2 D 107 1 0)) ∧ (v6 < v5 → ((-2147483648 ≤ v2 ∧ v2 < 2147483648) ∧ (-2147483648 ≤ v4 ∧ v4 < 2147483648)) ∧ ((v4 ≤ v2 → ((0 ≤ (((60 * v1) + v2) + v6) ∧ (((60 * v1) + v2) + v6) < 240) ∧ (0 ≤ (((60 * v3) + v4) + v6) ∧ (((60 * v3) + v4) + v6) < 240)) ∧ KX10_pour l E Q 118 [(0, vR E 107), (1, vI v1), (2, vI v2), (3, vI v3), (4, vI v4), (5, vI v5), (6, vI (v6 + 1))] G (upd2 D 111 (((60 * v3) + v4) + v6) (D 111 (((60 * v1) + v2) + v6)))) ∧ (v2 < v4 → ((0 ≤ (((60 * v1) + v2) + ((v5 - 1) - v6)) ∧ (((60 * v1) + v2) + ((v5 - 1) - v6)) < 240) ∧ (0 ≤ (((60 * v3) + v4) + ((v5 - 1) - v6)) ∧ (((60 * v3) + v4) + ((v5 - 1) - v6)) < 240)) ∧ KX10_pour l E Q 118 [(0, vR E 107), (1, vI v1), (2, vI v2), (3, vI v3), (4, vI v4), (5, vI v5), (6, vI (v6 + 1))] G (upd2 D 111 (((60 * v3) + v4) + ((v5 - 1) - v6)) (D 111 (((60 * v1) + v2) + ((v5 - 1) - v6))))))))) : KX10_pour l E Q 118 [(0, vR E 107), (1, vI v1), (2, vI v2), (3, vI v3), (4, vI v4), (5, vI v5), (6, vI v6)] G D := by
  obtain ⟨s1, h⟩ := h
  refine go_iload 6 dX10_pour_118 rfl ?_
  refine go_iload 5 dX10_pour_120 rfl ?_
  refine go_icmp_ge 180 dX10_pour_122 (by decide) s1.1 s1.2 (fun c2 => ?_) (fun c2 => ?_)
  · have h := h.1 c2
    refine go_aload_n 0 dX10_pour_180 rfl rfl ?_
    refine go_iconst dX10_pour_181 ?_
    refine go_vIp (M := MX10_is) [vI 0] [] mv_X10_88 (hL.1 107 _ rfl) rfl (by decide) ⟨Nat.le_of_ble_eq_true rfl, Nat.le_of_ble_eq_true rfl⟩ ⟨Nat.le_refl _, Nat.le_refl _⟩ rfl rfl (Nat.le_of_ble_eq_true rfl) dX10_pour_182 (p_X10_is hL (by decide)) ?_
    exact go_zreturn (Nat.le_refl _) (Nat.le_refl _) rfl (by decide) dX10_pour_185 h
  · have h := h.2 c2
    obtain ⟨s5, h⟩ := h
    refine go_iload_n 2 dX10_pour_125 rfl rfl ?_
    refine go_iload 4 dX10_pour_126 rfl ?_
    refine go_icmp_ge 141 dX10_pour_128 (by decide) s5.1 s5.2 (fun c6 => ?_) (fun c6 => ?_)
    · have h := h.1 c6
      obtain ⟨s7, h⟩ := h
      refine go_iload 6 dX10_pour_141 rfl ?_
      refine go_istore [1, 2, 3, 4, 5, 6, 7, 0] (L' := [(0, vR E 107), (1, vI v1), (2, vI v2), (3, vI v3), (4, vI v4), (5, vI v5), (6, vI v6), (7, vI v6)]) dX10_pour_143 (by decide) rfl ?_
      refine go_aload_n 0 dX10_pour_145 rfl rfl ?_
      refine go_getR 6 f_X10_23 rfl (hL.1 107 _ rfl) (hL.2.1 107 6 _ rfl (by decide)) dX10_pour_146 ?_
      refine go_bipush dX10_pour_149 (by decide) ?_
      refine go_iload_n 3 dX10_pour_151 rfl rfl ?_
      refine go_imul dX10_pour_152 ?_
      refine go_iload 4 dX10_pour_153 rfl ?_
      refine go_iadd dX10_pour_155 ?_
      refine go_iload 7 dX10_pour_156 rfl ?_
      refine go_iadd dX10_pour_158 ?_
      refine go_aload_n 0 dX10_pour_159 rfl rfl ?_
      refine go_getR 6 f_X10_23 rfl (hL.1 107 _ rfl) (hL.2.1 107 6 _ rfl (by decide)) dX10_pour_160 ?_
      refine go_bipush dX10_pour_163 (by decide) ?_
      refine go_iload_n 1 dX10_pour_165 rfl rfl ?_
      refine go_imul dX10_pour_166 ?_
      refine go_iload_n 2 dX10_pour_167 rfl rfl ?_
      refine go_iadd dX10_pour_168 ?_
      refine go_iload 7 dX10_pour_169 rfl ?_
      refine go_iadd dX10_pour_171 ?_
      refine go_laload (hL.1 111 _ rfl) (b := 240) rfl (by decide) s7.1 dX10_pour_172 ?_
      refine go_rngJ (c := 111) (i := (((60 * v1) + v2) + v6)) (hL.1 111 _ rfl) rfl (fun (q8 : -9223372036854775808 ≤ (D 111 (((60 * v1) + v2) + v6)) ∧ (D 111 (((60 * v1) + v2) + v6)) < 9223372036854775808) => ?_)
      refine go_lastore (hL.1 111 _ rfl) (b := 240) rfl (by decide) s7.2 q8 dX10_pour_173 ?_
      refine go_iinc 6 [1, 2, 3, 4, 5, 6, 0, 7] (L' := [(0, vR E 107), (1, vI v1), (2, vI v2), (3, vI v3), (4, vI v4), (5, vI v5), (6, vI (v6 + 1)), (7, vI v6)]) dX10_pour_174 (by decide) rfl rfl ?_
      refine go_goto 118 dX10_pour_177 (by decide) ?_
      refine go_sub [0, 1, 2, 3, 4, 5, 6] (L' := [(0, vR E 107), (1, vI v1), (2, vI v2), (3, vI v3), (4, vI v4), (5, vI v5), (6, vI (v6 + 1))]) rfl ?_
      exact h
    · have h := h.2 c6
      obtain ⟨s9, h⟩ := h
      refine go_iload 5 dX10_pour_131 rfl ?_
      refine go_iconst dX10_pour_133 ?_
      refine go_isub dX10_pour_134 ?_
      refine go_iload 6 dX10_pour_135 rfl ?_
      refine go_isub dX10_pour_137 ?_
      refine go_goto 143 dX10_pour_138 (by decide) ?_
      refine go_istore [1, 2, 3, 4, 5, 6, 7, 0] (L' := [(0, vR E 107), (1, vI v1), (2, vI v2), (3, vI v3), (4, vI v4), (5, vI v5), (6, vI v6), (7, vI ((v5 - 1) - v6))]) dX10_pour_143 (by decide) rfl ?_
      refine go_aload_n 0 dX10_pour_145 rfl rfl ?_
      refine go_getR 6 f_X10_23 rfl (hL.1 107 _ rfl) (hL.2.1 107 6 _ rfl (by decide)) dX10_pour_146 ?_
      refine go_bipush dX10_pour_149 (by decide) ?_
      refine go_iload_n 3 dX10_pour_151 rfl rfl ?_
      refine go_imul dX10_pour_152 ?_
      refine go_iload 4 dX10_pour_153 rfl ?_
      refine go_iadd dX10_pour_155 ?_
      refine go_iload 7 dX10_pour_156 rfl ?_
      refine go_iadd dX10_pour_158 ?_
      refine go_aload_n 0 dX10_pour_159 rfl rfl ?_
      refine go_getR 6 f_X10_23 rfl (hL.1 107 _ rfl) (hL.2.1 107 6 _ rfl (by decide)) dX10_pour_160 ?_
      refine go_bipush dX10_pour_163 (by decide) ?_
      refine go_iload_n 1 dX10_pour_165 rfl rfl ?_
      refine go_imul dX10_pour_166 ?_
      refine go_iload_n 2 dX10_pour_167 rfl rfl ?_
      refine go_iadd dX10_pour_168 ?_
      refine go_iload 7 dX10_pour_169 rfl ?_
      refine go_iadd dX10_pour_171 ?_
      refine go_laload (hL.1 111 _ rfl) (b := 240) rfl (by decide) s9.1 dX10_pour_172 ?_
      refine go_rngJ (c := 111) (i := (((60 * v1) + v2) + ((v5 - 1) - v6))) (hL.1 111 _ rfl) rfl (fun (q10 : -9223372036854775808 ≤ (D 111 (((60 * v1) + v2) + ((v5 - 1) - v6))) ∧ (D 111 (((60 * v1) + v2) + ((v5 - 1) - v6))) < 9223372036854775808) => ?_)
      refine go_lastore (hL.1 111 _ rfl) (b := 240) rfl (by decide) s9.2 q10 dX10_pour_173 ?_
      refine go_iinc 6 [1, 2, 3, 4, 5, 6, 0, 7] (L' := [(0, vR E 107), (1, vI v1), (2, vI v2), (3, vI v3), (4, vI v4), (5, vI v5), (6, vI (v6 + 1)), (7, vI ((v5 - 1) - v6))]) dX10_pour_174 (by decide) rfl rfl ?_
      refine go_goto 118 dX10_pour_177 (by decide) ?_
      refine go_sub [0, 1, 2, 3, 4, 5, 6] (L' := [(0, vR E 107), (1, vI v1), (2, vI v2), (3, vI v3), (4, vI v4), (5, vI v5), (6, vI (v6 + 1))]) rfl ?_
      exact h
theorem s_X10_four {l : Launch} {E : Ev} {Q : Int → Sh → Dm → Prop} {G : Sh} {D : Dm} (hL : Lay G) {v1 : Int}  (h : KX10_four l E Q 3 [(0, vR E 107), (1, vI v1), (2, vI 24)] G D) : Ct l E MX10_four 2 0 0 [vR E 107, vI v1] G D Q := by
  refine Ct.of (by decide) (Nat.le_of_ble_eq_true rfl) ?_
  show KX10_four l E Q 0 [(0, vR E 107), (1, vI v1)] G D
  refine go_bipush dX10_four_0 (by decide) ?_
  refine go_istore_n [1, 2, 0] (L' := [(0, vR E 107), (1, vI v1), (2, vI 24)]) dX10_four_2 rfl (by decide) rfl ?_
  exact h
theorem s_X10_four_3 {l : Launch} {E : Ev} {Q : Int → Sh → Dm → Prop} {G : Sh} {D : Dm} (hL : Lay G) {v1 v2 : Int}  (h : ((-2147483648 ≤ v2 ∧ v2 < 2147483648)) ∧ ((v2 < 0 → Q 0 G D) ∧ (0 ≤ v2 → ((0 ≤ (D 107 9) ∧ (D 107 9) < 600) ∧ (-2147483648 ≤ ((D 107 9) + 1) ∧ ((D 107 9) + 1) < 2147483648)) ∧ KX10_four l E Q 3 [(0, vR E 107), (1, vI v1), (2, vI (v2 + (-8)))] G (upd2 (upd2 D 112 (D 107 9) (b8 (iSr v1 v2))) 107 9 ((D 107 9) + 1))))) : KX10_four l E Q 3 [(0, vR E 107), (1, vI v1), (2, vI v2)] G D := by
  obtain ⟨s1, h⟩ := h
  refine go_iload_n 2 dX10_four_3 rfl rfl ?_
  refine go_if_lt 36 dX10_four_4 (by decide) s1 (fun c2 => ?_) (fun c2 => ?_)
  · have h := h.1 c2
    exact go_return (Nat.le_refl _) (Nat.le_refl _) rfl dX10_four_36 h
  · have h := h.2 c2
    obtain ⟨s4, h⟩ := h
    refine go_aload_n 0 dX10_four_7 rfl rfl ?_
    refine go_getR 7 f_X10_27 rfl (hL.1 107 _ rfl) (hL.2.1 107 7 _ rfl (by decide)) dX10_four_8 ?_
    refine go_aload_n 0 dX10_four_11 rfl rfl ?_
    refine go_getI 9 (i := 9) f_X10_105 rfl (hL.1 107 _ rfl) dX10_four_12 ?_
    refine go_iload_n 1 dX10_four_15 rfl rfl ?_
    refine go_iload_n 2 dX10_four_16 rfl rfl ?_
    refine go_ishr dX10_four_17 ?_
    refine go_i2b dX10_four_18 ?_
    refine go_bastore (hL.1 112 _ rfl) (b := 600) rfl (by decide) s4.1 (rb8 _) dX10_four_19 ?_
    refine go_aload_n 0 dX10_four_20 rfl rfl ?_
    refine go_dup rfl dX10_four_21 ?_
    refine go_getI 9 (i := 9) f_X10_105 rfl (hL.1 107 _ rfl) dX10_four_22 ?_
    refine go_iconst dX10_four_25 ?_
    refine go_iadd dX10_four_26 ?_
    refine go_putI 9 (i := 9) s4.2 f_X10_105 rfl (hL.1 107 _ rfl) dX10_four_27 ?_
    refine go_iinc 2 [1, 2, 0] (L' := [(0, vR E 107), (1, vI v1), (2, vI (v2 + (-8)))]) dX10_four_30 (by decide) rfl rfl ?_
    refine go_goto 3 dX10_four_33 (by decide) ?_
    exact h
theorem s_X10_feed {l : Launch} {E : Ev} {Q : Int → Sh → Dm → Prop} {G : Sh} {D : Dm} (hL : Lay G) {v1 v2 v3 v4 v5 : Int}  (h : ((-2147483648 ≤ ((D 107 9) + 20) ∧ ((D 107 9) + 20) < 2147483648)) ∧ ((((D 107 9) + 20) ≤ 600 → C0 l E MX10_four 2 [vR E 107, vI v1] G D (fun r4 D4 => C0 l E MX10_four 2 [vR E 107, vI v2] G D4 (fun r6 D6 => C0 l E MX10_four 2 [vR E 107, vI v3] G D6 (fun r8 D8 => C0 l E MX10_four 2 [vR E 107, vI v4] G D8 (fun r10 D10 => C0 l E MX10_four 2 [vR E 107, vI v5] G D10 (fun r12 D12 => Q (D12 107 9) G D12)))))) ∧ (600 < ((D 107 9) + 20) → Q (-1) G D))) : Ct l E MX10_feed 0 0 0 [vR E 107, vI v1, vI v2, vI v3, vI v4, vI v5] G D Q := by
  refine Ct.of (by decide) (Nat.le_of_ble_eq_true rfl) ?_
  show KX10_feed l E Q 0 [(0, vR E 107), (1, vI v1), (2, vI v2), (3, vI v3), (4, vI v4), (5, vI v5)] G D
  obtain ⟨s1, h⟩ := h
  refine go_aload_n 0 dX10_feed_0 rfl rfl ?_
  refine go_getI 9 (i := 9) f_X10_105 rfl (hL.1 107 _ rfl) dX10_feed_1 ?_
  refine go_bipush dX10_feed_4 (by decide) ?_
  refine go_iadd dX10_feed_6 ?_
  refine go_sipush dX10_feed_7 (by decide) ?_
  refine go_icmp_le 15 dX10_feed_10 (by decide) s1 (by decide) (fun c2 => ?_) (fun c2 => ?_)
  · have h := h.1 c2
    refine go_aload_n 0 dX10_feed_15 rfl rfl ?_
    refine go_iload_n 1 dX10_feed_16 rfl rfl ?_
    refine go_vV (M := MX10_four) [vI v1] [] mv_X10_108 (hL.1 107 _ rfl) rfl (by decide) ⟨Nat.le_of_ble_eq_true rfl, Nat.le_of_ble_eq_true rfl⟩ ⟨Nat.le_refl _, Nat.le_refl _⟩ rfl rfl (Nat.le_of_ble_eq_true rfl) dX10_feed_17 h (fun r4 D4 h => ?_)
    refine go_aload_n 0 dX10_feed_20 rfl rfl ?_
    refine go_iload_n 2 dX10_feed_21 rfl rfl ?_
    refine go_vV (M := MX10_four) [vI v2] [] mv_X10_108 (hL.1 107 _ rfl) rfl (by decide) ⟨Nat.le_of_ble_eq_true rfl, Nat.le_of_ble_eq_true rfl⟩ ⟨Nat.le_refl _, Nat.le_refl _⟩ rfl rfl (Nat.le_of_ble_eq_true rfl) dX10_feed_22 h (fun r6 D6 h => ?_)
    refine go_aload_n 0 dX10_feed_25 rfl rfl ?_
    refine go_iload_n 3 dX10_feed_26 rfl rfl ?_
    refine go_vV (M := MX10_four) [vI v3] [] mv_X10_108 (hL.1 107 _ rfl) rfl (by decide) ⟨Nat.le_of_ble_eq_true rfl, Nat.le_of_ble_eq_true rfl⟩ ⟨Nat.le_refl _, Nat.le_refl _⟩ rfl rfl (Nat.le_of_ble_eq_true rfl) dX10_feed_27 h (fun r8 D8 h => ?_)
    refine go_aload_n 0 dX10_feed_30 rfl rfl ?_
    refine go_iload 4 dX10_feed_31 rfl ?_
    refine go_vV (M := MX10_four) [vI v4] [] mv_X10_108 (hL.1 107 _ rfl) rfl (by decide) ⟨Nat.le_of_ble_eq_true rfl, Nat.le_of_ble_eq_true rfl⟩ ⟨Nat.le_refl _, Nat.le_refl _⟩ rfl rfl (Nat.le_of_ble_eq_true rfl) dX10_feed_33 h (fun r10 D10 h => ?_)
    refine go_aload_n 0 dX10_feed_36 rfl rfl ?_
    refine go_iload 5 dX10_feed_37 rfl ?_
    refine go_vV (M := MX10_four) [vI v5] [] mv_X10_108 (hL.1 107 _ rfl) rfl (by decide) ⟨Nat.le_of_ble_eq_true rfl, Nat.le_of_ble_eq_true rfl⟩ ⟨Nat.le_refl _, Nat.le_refl _⟩ rfl rfl (Nat.le_of_ble_eq_true rfl) dX10_feed_39 h (fun r12 D12 h => ?_)
    refine go_aload_n 0 dX10_feed_42 rfl rfl ?_
    refine go_getI 9 (i := 9) f_X10_105 rfl (hL.1 107 _ rfl) dX10_feed_43 ?_
    exact go_ireturn (Nat.le_refl _) (Nat.le_refl _) rfl dX10_feed_46 h
  · have h := h.2 c2
    refine go_iconst dX10_feed_13 ?_
    exact go_ireturn (Nat.le_refl _) (Nat.le_refl _) rfl dX10_feed_14 h
theorem s_X10_byteAt {l : Launch} {E : Ev} {Q : Int → Sh → Dm → Prop} {G : Sh} {D : Dm} (hL : Lay G) {v1 : Int}  (h : ((-2147483648 ≤ v1 ∧ v1 < 2147483648)) ∧ (((D 107 10) ≤ v1 → Q (-1) G D) ∧ (v1 < (D 107 10) → ((0 ≤ v1 ∧ v1 < 600)) ∧ Q (iA (D 113 v1) 255) G D))) : Ct l E MX10_byteAt 0 0 0 [vR E 107, vI v1] G D Q := by
  refine Ct.of (by decide) (Nat.le_of_ble_eq_true rfl) ?_
  show KX10_byteAt l E Q 0 [(0, vR E 107), (1, vI v1)] G D
  obtain ⟨s1, h⟩ := h
  refine go_iload_n 1 dX10_byteAt_0 rfl rfl ?_
  refine go_aload_n 0 dX10_byteAt_1 rfl rfl ?_
  refine go_getI 10 (i := 10) f_X10_112 rfl (hL.1 107 _ rfl) dX10_byteAt_2 ?_
  refine go_rngI (c := 107) (i := 10) (hL.1 107 _ rfl) rfl (fun (q2 : -2147483648 ≤ (D 107 10) ∧ (D 107 10) < 2147483648) => ?_)
  refine go_icmp_ge 21 dX10_byteAt_5 (by decide) s1 q2 (fun c3 => ?_) (fun c3 => ?_)
  · have h := h.1 c3
    refine go_iconst dX10_byteAt_21 ?_
    exact go_ireturn (Nat.le_refl _) (Nat.le_refl _) rfl dX10_byteAt_22 h
  · have h := h.2 c3
    obtain ⟨s5, h⟩ := h
    refine go_aload_n 0 dX10_byteAt_8 rfl rfl ?_
    refine go_getR 8 f_X10_31 rfl (hL.1 107 _ rfl) (hL.2.1 107 8 _ rfl (by decide)) dX10_byteAt_9 ?_
    refine go_iload_n 1 dX10_byteAt_12 rfl rfl ?_
    refine go_baload (hL.1 113 _ rfl) (b := 600) rfl (by decide) s5 dX10_byteAt_13 ?_
    refine go_sipush dX10_byteAt_14 (by decide) ?_
    refine go_iand dX10_byteAt_17 ?_
    refine go_goto 22 dX10_byteAt_18 (by decide) ?_
    exact go_ireturn (Nat.le_refl _) (Nat.le_refl _) rfl dX10_byteAt_22 h
theorem s_X10_isSmall {l : Launch} {E : Ev} {Q : Int → Sh → Dm → Prop} {G : Sh} {D : Dm} (hL : Lay G) {v0 : Int}  (h : ((-2147483648 ≤ v0 ∧ v0 < 2147483648)) ∧ ((v0 < 97 → Q 0 G D) ∧ (97 ≤ v0 → ((122 < v0 → Q 0 G D) ∧ (v0 ≤ 122 → Q 1 G D))))) : Ct l E MX10_isSmall 0 0 0 [vI v0] G D Q := by
  refine Ct.of (by decide) (Nat.le_of_ble_eq_true rfl) ?_
  show KX10_isSmall l E Q 0 [(0, vI v0)] G D
  obtain ⟨s1, h⟩ := h
  refine go_iload_n 0 dX10_isSmall_0 rfl rfl ?_
  refine go_bipush dX10_isSmall_1 (by decide) ?_
  refine go_icmp_lt 16 dX10_isSmall_3 (by decide) s1 (by decide) (fun c2 => ?_) (fun c2 => ?_)
  · have h := h.1 c2
    refine go_iconst dX10_isSmall_16 ?_
    exact go_zreturn (Nat.le_refl _) (Nat.le_refl _) rfl (by decide) dX10_isSmall_17 h
  · have h := h.2 c2
    refine go_iload_n 0 dX10_isSmall_6 rfl rfl ?_
    refine go_bipush dX10_isSmall_7 (by decide) ?_
    refine go_icmp_gt 16 dX10_isSmall_9 (by decide) s1 (by decide) (fun c5 => ?_) (fun c5 => ?_)
    · have h := h.1 c5
      refine go_iconst dX10_isSmall_16 ?_
      exact go_zreturn (Nat.le_refl _) (Nat.le_refl _) rfl (by decide) dX10_isSmall_17 h
    · have h := h.2 c5
      refine go_iconst dX10_isSmall_12 ?_
      refine go_goto 17 dX10_isSmall_13 (by decide) ?_
      exact go_zreturn (Nat.le_refl _) (Nat.le_refl _) rfl (by decide) dX10_isSmall_17 h
theorem p_X10_isSmall {l : Launch} {E : Ev} {G : Sh} {D : Dm} (hL : Lay G) {v0 : Int}  (q0 : -2147483648 ≤ v0 ∧ v0 < 2147483648) : C0 l E MX10_isSmall 0 [vI v0] G D (fun r D' => r = (if ((97 ≤ v0) ∧ (v0 ≤ 122)) then 1 else 0) ∧ D' = D) := by
  refine s_X10_isSmall hL ?_
  refine ⟨q0, ?_⟩
  refine ⟨fun hc => ?_, fun hc => ?_⟩
  · refine ⟨rfl, ?_, rfl⟩
    (split <;> first | rfl | (exfalso; simp_all; done) | omega | simp_all)
  · refine ⟨fun hc => ?_, fun hc => ?_⟩
    · refine ⟨rfl, ?_, rfl⟩
      (split <;> first | rfl | (exfalso; simp_all; done) | omega | simp_all)
    · refine ⟨rfl, ?_, rfl⟩
      (split <;> first | rfl | (exfalso; simp_all; done) | omega | simp_all)
theorem s_X10_isDigit {l : Launch} {E : Ev} {Q : Int → Sh → Dm → Prop} {G : Sh} {D : Dm} (hL : Lay G) {v0 : Int}  (h : ((-2147483648 ≤ v0 ∧ v0 < 2147483648)) ∧ ((v0 < 48 → Q 0 G D) ∧ (48 ≤ v0 → ((57 < v0 → Q 0 G D) ∧ (v0 ≤ 57 → Q 1 G D))))) : Ct l E MX10_isDigit 0 0 0 [vI v0] G D Q := by
  refine Ct.of (by decide) (Nat.le_of_ble_eq_true rfl) ?_
  show KX10_isDigit l E Q 0 [(0, vI v0)] G D
  obtain ⟨s1, h⟩ := h
  refine go_iload_n 0 dX10_isDigit_0 rfl rfl ?_
  refine go_bipush dX10_isDigit_1 (by decide) ?_
  refine go_icmp_lt 16 dX10_isDigit_3 (by decide) s1 (by decide) (fun c2 => ?_) (fun c2 => ?_)
  · have h := h.1 c2
    refine go_iconst dX10_isDigit_16 ?_
    exact go_zreturn (Nat.le_refl _) (Nat.le_refl _) rfl (by decide) dX10_isDigit_17 h
  · have h := h.2 c2
    refine go_iload_n 0 dX10_isDigit_6 rfl rfl ?_
    refine go_bipush dX10_isDigit_7 (by decide) ?_
    refine go_icmp_gt 16 dX10_isDigit_9 (by decide) s1 (by decide) (fun c5 => ?_) (fun c5 => ?_)
    · have h := h.1 c5
      refine go_iconst dX10_isDigit_16 ?_
      exact go_zreturn (Nat.le_refl _) (Nat.le_refl _) rfl (by decide) dX10_isDigit_17 h
    · have h := h.2 c5
      refine go_iconst dX10_isDigit_12 ?_
      refine go_goto 17 dX10_isDigit_13 (by decide) ?_
      exact go_zreturn (Nat.le_refl _) (Nat.le_refl _) rfl (by decide) dX10_isDigit_17 h
theorem p_X10_isDigit {l : Launch} {E : Ev} {G : Sh} {D : Dm} (hL : Lay G) {v0 : Int}  (q0 : -2147483648 ≤ v0 ∧ v0 < 2147483648) : C0 l E MX10_isDigit 0 [vI v0] G D (fun r D' => r = (if ((48 ≤ v0) ∧ (v0 ≤ 57)) then 1 else 0) ∧ D' = D) := by
  refine s_X10_isDigit hL ?_
  refine ⟨q0, ?_⟩
  refine ⟨fun hc => ?_, fun hc => ?_⟩
  · refine ⟨rfl, ?_, rfl⟩
    (split <;> first | rfl | (exfalso; simp_all; done) | omega | simp_all)
  · refine ⟨fun hc => ?_, fun hc => ?_⟩
    · refine ⟨rfl, ?_, rfl⟩
      (split <;> first | rfl | (exfalso; simp_all; done) | omega | simp_all)
    · refine ⟨rfl, ?_, rfl⟩
      (split <;> first | rfl | (exfalso; simp_all; done) | omega | simp_all)
theorem s_X10_ahead {l : Launch} {E : Ev} {Q : Int → Sh → Dm → Prop} {G : Sh} {D : Dm} (hL : Lay G)  (h : KX10_ahead l E Q 0 [(0, vR E 107)] G D) : Ct l E MX10_ahead 2 0 0 [vR E 107] G D Q := by
  refine Ct.of (by decide) (Nat.le_of_ble_eq_true rfl) ?_
  exact h
theorem s_X10_ahead_0 {l : Launch} {E : Ev} {Q : Int → Sh → Dm → Prop} {G : Sh} {D : Dm} (hL : Lay G)  (h : C0 l E MX10_byteAt 0 [vR E 107, vI (D 107 13)] G D (fun r2 D2 => ((-2147483648 ≤ r2 ∧ r2 < 2147483648)) ∧ ((r2 = 32 → ((-2147483648 ≤ ((D2 107 13) + 1) ∧ ((D2 107 13) + 1) < 2147483648)) ∧ KX10_ahead l E Q 0 [(0, vR E 107)] G (upd2 D2 107 13 ((D2 107 13) + 1))) ∧ (r2 ≠ 32 → C0 l E MX10_byteAt 0 [vR E 107, vI (D2 107 13)] G D2 (fun r7 D7 => ((-2147483648 ≤ r7 ∧ r7 < 2147483648)) ∧ ((r7 ≠ 10 → C0 l E MX10_byteAt 0 [vR E 107, vI (D7 107 13)] G (upd2 D7 107 12 (D7 107 13)) (fun r12 D12 => ((-2147483648 ≤ r12 ∧ r12 < 2147483648)) ∧ ((r12 ≠ (-1) → ((¬ ((97 ≤ r12) ∧ (r12 ≤ 122)) → ((¬ ((48 ≤ r12) ∧ (r12 ≤ 57)) → ((-2147483648 ≤ ((D12 107 13) + 1) ∧ ((D12 107 13) + 1) < 2147483648)) ∧ ((r12 ≠ 59 → Q 0 G (upd2 (upd2 (upd2 D12 107 14 r12) 107 13 ((D12 107 13) + 1)) 107 11 1)) ∧ (r12 = 59 → Q 0 G (upd2 (upd2 (upd2 D12 107 14 r12) 107 13 ((D12 107 13) + 1)) 107 11 4)))) ∧ (((48 ≤ r12) ∧ (r12 ≤ 57)) → KX10_ahead l E Q 128 [(0, vR E 107), (1, vI r12)] G (upd2 (upd2 D12 107 14 r12) 107 14 0)))) ∧ (((97 ≤ r12) ∧ (r12 ≤ 122)) → KX10_ahead l E Q 81 [(0, vR E 107), (1, vI r12)] G (upd2 D12 107 14 r12)))) ∧ (r12 = (-1) → Q 0 G (upd2 (upd2 D12 107 14 r12) 107 11 0))))) ∧ (r7 = 10 → ((-2147483648 ≤ ((D7 107 13) + 1) ∧ ((D7 107 13) + 1) < 2147483648)) ∧ KX10_ahead l E Q 0 [(0, vR E 107)] G (upd2 D7 107 13 ((D7 107 13) + 1))))))))) : KX10_ahead l E Q 0 [(0, vR E 107)] G D := by
  refine go_aload_n 0 dX10_ahead_0 rfl rfl ?_
  refine go_aload_n 0 dX10_ahead_1 rfl rfl ?_
  refine go_getI 13 (i := 13) f_X10_115 rfl (hL.1 107 _ rfl) dX10_ahead_2 ?_
  refine go_vI (M := MX10_byteAt) [vI (D 107 13)] [] mv_X10_118 (hL.1 107 _ rfl) rfl (by decide) ⟨Nat.le_of_ble_eq_true rfl, Nat.le_of_ble_eq_true rfl⟩ ⟨Nat.le_refl _, Nat.le_refl _⟩ rfl rfl (Nat.le_of_ble_eq_true rfl) dX10_ahead_5 h (fun r2 D2 h => ?_)
  obtain ⟨s3, h⟩ := h
  refine go_bipush dX10_ahead_8 (by decide) ?_
  refine go_icmp_eq 26 dX10_ahead_10 (by decide) s3 (by decide) (fun c4 => ?_) (fun c4 => ?_)
  · have h := h.1 c4
    obtain ⟨s5, h⟩ := h
    refine go_aload_n 0 dX10_ahead_26 rfl rfl ?_
    refine go_dup rfl dX10_ahead_27 ?_
    refine go_getI 13 (i := 13) f_X10_115 rfl (hL.1 107 _ rfl) dX10_ahead_28 ?_
    refine go_iconst dX10_ahead_31 ?_
    refine go_iadd dX10_ahead_32 ?_
    refine go_putI 13 (i := 13) s5 f_X10_115 rfl (hL.1 107 _ rfl) dX10_ahead_33 ?_
    refine go_goto 0 dX10_ahead_36 (by decide) ?_
    exact h
  · have h := h.2 c4
    refine go_aload_n 0 dX10_ahead_13 rfl rfl ?_
    refine go_aload_n 0 dX10_ahead_14 rfl rfl ?_
    refine go_getI 13 (i := 13) f_X10_115 rfl (hL.1 107 _ rfl) dX10_ahead_15 ?_
    refine go_vI (M := MX10_byteAt) [vI (D2 107 13)] [] mv_X10_118 (hL.1 107 _ rfl) rfl (by decide) ⟨Nat.le_of_ble_eq_true rfl, Nat.le_of_ble_eq_true rfl⟩ ⟨Nat.le_refl _, Nat.le_refl _⟩ rfl rfl (Nat.le_of_ble_eq_true rfl) dX10_ahead_18 h (fun r7 D7 h => ?_)
    obtain ⟨s8, h⟩ := h
    refine go_bipush dX10_ahead_21 (by decide) ?_
    refine go_icmp_ne 39 dX10_ahead_23 (by decide) s8 (by decide) (fun c9 => ?_) (fun c9 => ?_)
    · have h := h.1 c9
      refine go_aload_n 0 dX10_ahead_39 rfl rfl ?_
      refine go_aload_n 0 dX10_ahead_40 rfl rfl ?_
      refine go_getI 13 (i := 13) f_X10_115 rfl (hL.1 107 _ rfl) dX10_ahead_41 ?_
      refine go_rngI (c := 107) (i := 13) (hL.1 107 _ rfl) rfl (fun (q11 : -2147483648 ≤ (D7 107 13) ∧ (D7 107 13) < 2147483648) => ?_)
      refine go_putI 12 (i := 12) q11 f_X10_122 rfl (hL.1 107 _ rfl) dX10_ahead_44 ?_
      refine go_aload_n 0 dX10_ahead_47 rfl rfl ?_
      refine go_aload_n 0 dX10_ahead_48 rfl rfl ?_
      refine go_getI 13 (i := 13) f_X10_115 rfl (hL.1 107 _ rfl) dX10_ahead_49 ?_
      refine go_vI (M := MX10_byteAt) [vI (D7 107 13)] [] mv_X10_118 (hL.1 107 _ rfl) rfl (by decide) ⟨Nat.le_of_ble_eq_true rfl, Nat.le_of_ble_eq_true rfl⟩ ⟨Nat.le_refl _, Nat.le_refl _⟩ rfl rfl (Nat.le_of_ble_eq_true rfl) dX10_ahead_52 h (fun r12 D12 h => ?_)
      obtain ⟨s13, h⟩ := h
      refine go_istore_n [1, 0] (L' := [(0, vR E 107), (1, vI r12)]) dX10_ahead_55 rfl (by decide) rfl ?_
      refine go_aload_n 0 dX10_ahead_56 rfl rfl ?_
      refine go_iload_n 1 dX10_ahead_57 rfl rfl ?_
      refine go_putI 14 (i := 14) s13 f_X10_125 rfl (hL.1 107 _ rfl) dX10_ahead_58 ?_
      refine go_iload_n 1 dX10_ahead_61 rfl rfl ?_
      refine go_iconst dX10_ahead_62 ?_
      refine go_icmp_ne 74 dX10_ahead_63 (by decide) s13 (by decide) (fun c14 => ?_) (fun c14 => ?_)
      · have h := h.1 c14
        refine go_iload_n 1 dX10_ahead_74 rfl rfl ?_
        refine go_sIp (M := MX10_isSmall) [vI r12] [] ms_X10_131 ⟨Nat.le_of_ble_eq_true rfl, Nat.le_of_ble_eq_true rfl⟩ ⟨Nat.le_refl _, Nat.le_refl _⟩ rfl rfl (Nat.le_of_ble_eq_true rfl) dX10_ahead_75 (p_X10_isSmall hL s13) ?_
        refine go_ifb_eq 116 dX10_ahead_78 (by decide) (fun c17 => ?_) (fun c17 => ?_)
        · have h := h.1 c17
          refine go_iload_n 1 dX10_ahead_116 rfl rfl ?_
          refine go_sIp (M := MX10_isDigit) [vI r12] [] ms_X10_134 ⟨Nat.le_of_ble_eq_true rfl, Nat.le_of_ble_eq_true rfl⟩ ⟨Nat.le_refl _, Nat.le_refl _⟩ rfl rfl (Nat.le_of_ble_eq_true rfl) dX10_ahead_117 (p_X10_isDigit hL s13) ?_
          refine go_ifb_eq 209 dX10_ahead_120 (by decide) (fun c20 => ?_) (fun c20 => ?_)
          · have h := h.1 c20
            obtain ⟨s21, h⟩ := h
            refine go_aload_n 0 dX10_ahead_209 rfl rfl ?_
            refine go_dup rfl dX10_ahead_210 ?_
            refine go_getI 13 (i := 13) f_X10_115 rfl (hL.1 107 _ rfl) dX10_ahead_211 ?_
            refine go_iconst dX10_ahead_214 ?_
            refine go_iadd dX10_ahead_215 ?_
            refine go_putI 13 (i := 13) s21 f_X10_115 rfl (hL.1 107 _ rfl) dX10_ahead_216 ?_
            refine go_aload_n 0 dX10_ahead_219 rfl rfl ?_
            refine go_iload_n 1 dX10_ahead_220 rfl rfl ?_
            refine go_bipush dX10_ahead_221 (by decide) ?_
            refine go_icmp_ne 230 dX10_ahead_223 (by decide) s13 (by decide) (fun c22 => ?_) (fun c22 => ?_)
            · have h := h.1 c22
              refine go_iconst dX10_ahead_230 ?_
              refine go_putI 11 (i := 11) (by decide) f_X10_128 rfl (hL.1 107 _ rfl) dX10_ahead_231 ?_
              exact go_return (Nat.le_refl _) (Nat.le_refl _) rfl dX10_ahead_234 h
            · have h := h.2 c22
              refine go_iconst dX10_ahead_226 ?_
              refine go_goto 231 dX10_ahead_227 (by decide) ?_
              refine go_putI 11 (i := 11) (by decide) f_X10_128 rfl (hL.1 107 _ rfl) dX10_ahead_231 ?_
              exact go_return (Nat.le_refl _) (Nat.le_refl _) rfl dX10_ahead_234 h
          · have h := h.2 c20
            refine go_aload_n 0 dX10_ahead_123 rfl rfl ?_
            refine go_iconst dX10_ahead_124 ?_
            refine go_putI 14 (i := 14) (by decide) f_X10_125 rfl (hL.1 107 _ rfl) dX10_ahead_125 ?_
            exact h
        · have h := h.2 c17
          exact h
      · have h := h.2 c14
        refine go_aload_n 0 dX10_ahead_66 rfl rfl ?_
        refine go_iconst dX10_ahead_67 ?_
        refine go_putI 11 (i := 11) (by decide) f_X10_128 rfl (hL.1 107 _ rfl) dX10_ahead_68 ?_
        refine go_goto 234 dX10_ahead_71 (by decide) ?_
        exact go_return (Nat.le_refl _) (Nat.le_refl _) rfl dX10_ahead_234 h
    · have h := h.2 c9
      obtain ⟨s28, h⟩ := h
      refine go_aload_n 0 dX10_ahead_26 rfl rfl ?_
      refine go_dup rfl dX10_ahead_27 ?_
      refine go_getI 13 (i := 13) f_X10_115 rfl (hL.1 107 _ rfl) dX10_ahead_28 ?_
      refine go_iconst dX10_ahead_31 ?_
      refine go_iadd dX10_ahead_32 ?_
      refine go_putI 13 (i := 13) s28 f_X10_115 rfl (hL.1 107 _ rfl) dX10_ahead_33 ?_
      refine go_goto 0 dX10_ahead_36 (by decide) ?_
      exact h
theorem s_X10_ahead_81 {l : Launch} {E : Ev} {Q : Int → Sh → Dm → Prop} {G : Sh} {D : Dm} (hL : Lay G) {v1 : Int}  (h : C0 l E MX10_byteAt 0 [vR E 107, vI (D 107 13)] G D (fun r2 D2 => ((-2147483648 ≤ r2 ∧ r2 < 2147483648)) ∧ ((¬ ((97 ≤ r2) ∧ (r2 ≤ 122)) → Q 0 G (upd2 D2 107 11 2)) ∧ (((97 ≤ r2) ∧ (r2 ≤ 122)) → ((-2147483648 ≤ ((D2 107 13) + 1) ∧ ((D2 107 13) + 1) < 2147483648)) ∧ KX10_ahead l E Q 81 [(0, vR E 107), (1, vI v1)] G (upd2 D2 107 13 ((D2 107 13) + 1)))))) : KX10_ahead l E Q 81 [(0, vR E 107), (1, vI v1)] G D := by
  refine go_aload_n 0 dX10_ahead_81 rfl rfl ?_
  refine go_aload_n 0 dX10_ahead_82 rfl rfl ?_
  refine go_getI 13 (i := 13) f_X10_115 rfl (hL.1 107 _ rfl) dX10_ahead_83 ?_
  refine go_vI (M := MX10_byteAt) [vI (D 107 13)] [] mv_X10_118 (hL.1 107 _ rfl) rfl (by decide) ⟨Nat.le_of_ble_eq_true rfl, Nat.le_of_ble_eq_true rfl⟩ ⟨Nat.le_refl _, Nat.le_refl _⟩ rfl rfl (Nat.le_of_ble_eq_true rfl) dX10_ahead_86 h (fun r2 D2 h => ?_)
  obtain ⟨s3, h⟩ := h
  refine go_sIp (M := MX10_isSmall) [vI r2] [] ms_X10_131 ⟨Nat.le_of_ble_eq_true rfl, Nat.le_of_ble_eq_true rfl⟩ ⟨Nat.le_refl _, Nat.le_refl _⟩ rfl rfl (Nat.le_of_ble_eq_true rfl) dX10_ahead_89 (p_X10_isSmall hL s3) ?_
  refine go_ifb_eq 108 dX10_ahead_92 (by decide) (fun c5 => ?_) (fun c5 => ?_)
  · have h := h.1 c5
    refine go_aload_n 0 dX10_ahead_108 rfl rfl ?_
    refine go_iconst dX10_ahead_109 ?_
    refine go_putI 11 (i := 11) (by decide) f_X10_128 rfl (hL.1 107 _ rfl) dX10_ahead_110 ?_
    refine go_goto 234 dX10_ahead_113 (by decide) ?_
    exact go_return (Nat.le_refl _) (Nat.le_refl _) rfl dX10_ahead_234 h
  · have h := h.2 c5
    obtain ⟨s7, h⟩ := h
    refine go_aload_n 0 dX10_ahead_95 rfl rfl ?_
    refine go_dup rfl dX10_ahead_96 ?_
    refine go_getI 13 (i := 13) f_X10_115 rfl (hL.1 107 _ rfl) dX10_ahead_97 ?_
    refine go_iconst dX10_ahead_100 ?_
    refine go_iadd dX10_ahead_101 ?_
    refine go_putI 13 (i := 13) s7 f_X10_115 rfl (hL.1 107 _ rfl) dX10_ahead_102 ?_
    refine go_goto 81 dX10_ahead_105 (by decide) ?_
    exact h
theorem s_X10_ahead_128 {l : Launch} {E : Ev} {Q : Int → Sh → Dm → Prop} {G : Sh} {D : Dm} (hL : Lay G) {v1 : Int}  (h : C0 l E MX10_byteAt 0 [vR E 107, vI (D 107 13)] G D (fun r2 D2 => ((-2147483648 ≤ r2 ∧ r2 < 2147483648)) ∧ ((¬ ((48 ≤ r2) ∧ (r2 ≤ 57)) → ((-2147483648 ≤ ((D2 107 13) - (D2 107 12)) ∧ ((D2 107 13) - (D2 107 12)) < 2147483648)) ∧ ((((D2 107 13) - (D2 107 12)) ≤ 2 → Q 0 G (upd2 D2 107 11 3)) ∧ (2 < ((D2 107 13) - (D2 107 12)) → Q 0 G (upd2 D2 107 11 1)))) ∧ (((48 ≤ r2) ∧ (r2 ≤ 57)) → C0 l E MX10_byteAt 0 [vR E 107, vI (D2 107 13)] G D2 (fun r11 D11 => ((-2147483648 ≤ (((10 * (D2 107 14)) + r11) - 48) ∧ (((10 * (D2 107 14)) + r11) - 48) < 2147483648) ∧ (-2147483648 ≤ (min 1000 (((10 * (D2 107 14)) + r11) - 48)) ∧ (min 1000 (((10 * (D2 107 14)) + r11) - 48)) < 2147483648) ∧ (-2147483648 ≤ ((D11 107 13) + 1) ∧ ((D11 107 13) + 1) < 2147483648)) ∧ KX10_ahead l E Q 128 [(0, vR E 107), (1, vI v1)] G (upd2 (upd2 D11 107 14 (min 1000 (((10 * (D2 107 14)) + r11) - 48))) 107 13 ((D11 107 13) + 1))))))) : KX10_ahead l E Q 128 [(0, vR E 107), (1, vI v1)] G D := by
  refine go_aload_n 0 dX10_ahead_128 rfl rfl ?_
  refine go_aload_n 0 dX10_ahead_129 rfl rfl ?_
  refine go_getI 13 (i := 13) f_X10_115 rfl (hL.1 107 _ rfl) dX10_ahead_130 ?_
  refine go_vI (M := MX10_byteAt) [vI (D 107 13)] [] mv_X10_118 (hL.1 107 _ rfl) rfl (by decide) ⟨Nat.le_of_ble_eq_true rfl, Nat.le_of_ble_eq_true rfl⟩ ⟨Nat.le_refl _, Nat.le_refl _⟩ rfl rfl (Nat.le_of_ble_eq_true rfl) dX10_ahead_133 h (fun r2 D2 h => ?_)
  obtain ⟨s3, h⟩ := h
  refine go_sIp (M := MX10_isDigit) [vI r2] [] ms_X10_134 ⟨Nat.le_of_ble_eq_true rfl, Nat.le_of_ble_eq_true rfl⟩ ⟨Nat.le_refl _, Nat.le_refl _⟩ rfl rfl (Nat.le_of_ble_eq_true rfl) dX10_ahead_136 (p_X10_isDigit hL s3) ?_
  refine go_ifb_eq 184 dX10_ahead_139 (by decide) (fun c5 => ?_) (fun c5 => ?_)
  · have h := h.1 c5
    obtain ⟨s6, h⟩ := h
    refine go_aload_n 0 dX10_ahead_184 rfl rfl ?_
    refine go_aload_n 0 dX10_ahead_185 rfl rfl ?_
    refine go_getI 13 (i := 13) f_X10_115 rfl (hL.1 107 _ rfl) dX10_ahead_186 ?_
    refine go_aload_n 0 dX10_ahead_189 rfl rfl ?_
    refine go_getI 12 (i := 12) f_X10_122 rfl (hL.1 107 _ rfl) dX10_ahead_190 ?_
    refine go_isub dX10_ahead_193 ?_
    refine go_iconst dX10_ahead_194 ?_
    refine go_icmp_le 202 dX10_ahead_195 (by decide) s6 (by decide) (fun c7 => ?_) (fun c7 => ?_)
    · have h := h.1 c7
      refine go_iconst dX10_ahead_202 ?_
      refine go_putI 11 (i := 11) (by decide) f_X10_128 rfl (hL.1 107 _ rfl) dX10_ahead_203 ?_
      refine go_goto 234 dX10_ahead_206 (by decide) ?_
      exact go_return (Nat.le_refl _) (Nat.le_refl _) rfl dX10_ahead_234 h
    · have h := h.2 c7
      refine go_iconst dX10_ahead_198 ?_
      refine go_goto 203 dX10_ahead_199 (by decide) ?_
      refine go_putI 11 (i := 11) (by decide) f_X10_128 rfl (hL.1 107 _ rfl) dX10_ahead_203 ?_
      refine go_goto 234 dX10_ahead_206 (by decide) ?_
      exact go_return (Nat.le_refl _) (Nat.le_refl _) rfl dX10_ahead_234 h
  · have h := h.2 c5
    refine go_aload_n 0 dX10_ahead_142 rfl rfl ?_
    refine go_sipush dX10_ahead_143 (by decide) ?_
    refine go_bipush dX10_ahead_146 (by decide) ?_
    refine go_aload_n 0 dX10_ahead_148 rfl rfl ?_
    refine go_getI 14 (i := 14) f_X10_125 rfl (hL.1 107 _ rfl) dX10_ahead_149 ?_
    refine go_imul dX10_ahead_152 ?_
    refine go_aload_n 0 dX10_ahead_153 rfl rfl ?_
    refine go_aload_n 0 dX10_ahead_154 rfl rfl ?_
    refine go_getI 13 (i := 13) f_X10_115 rfl (hL.1 107 _ rfl) dX10_ahead_155 ?_
    refine go_vI (M := MX10_byteAt) [vI (D2 107 13)] [vI (10 * (D2 107 14)), vI 1000, vR E 107] mv_X10_118 (hL.1 107 _ rfl) rfl (by decide) ⟨Nat.le_of_ble_eq_true rfl, Nat.le_of_ble_eq_true rfl⟩ ⟨Nat.le_refl _, Nat.le_refl _⟩ rfl rfl (Nat.le_of_ble_eq_true rfl) dX10_ahead_158 h (fun r11 D11 h => ?_)
    obtain ⟨s12, h⟩ := h
    refine go_iadd dX10_ahead_161 ?_
    refine go_bipush dX10_ahead_162 (by decide) ?_
    refine go_isub dX10_ahead_164 ?_
    refine go_mmin ma_X10_137 (by decide) s12.1 ⟨by decide, Nat.le_of_ble_eq_true rfl⟩ ⟨Nat.le_refl _, Nat.le_refl _⟩ dX10_ahead_165 ?_
    refine go_putI 14 (i := 14) s12.2.1 f_X10_125 rfl (hL.1 107 _ rfl) dX10_ahead_168 ?_
    refine go_aload_n 0 dX10_ahead_171 rfl rfl ?_
    refine go_dup rfl dX10_ahead_172 ?_
    refine go_getI 13 (i := 13) f_X10_115 rfl (hL.1 107 _ rfl) dX10_ahead_173 ?_
    refine go_iconst dX10_ahead_176 ?_
    refine go_iadd dX10_ahead_177 ?_
    refine go_putI 13 (i := 13) s12.2.2 f_X10_115 rfl (hL.1 107 _ rfl) dX10_ahead_178 ?_
    refine go_goto 128 dX10_ahead_181 (by decide) ?_
    exact h
theorem s_X10_fails {l : Launch} {E : Ev} {Q : Int → Sh → Dm → Prop} {G : Sh} {D : Dm} (hL : Lay G) {v1 : Int}  (h : (((D 107 17) ≠ 0 → Q 0 G D) ∧ ((D 107 17) = 0 → (((D 107 11) ≠ 1 → ((-2147483648 ≤ v1 ∧ v1 < 2147483648)) ∧ Q 0 G (upd2 (upd2 D 107 17 v1) 107 16 (D 107 12))) ∧ ((D 107 11) = 1 → Q 0 G (upd2 (upd2 D 107 17 1) 107 16 (D 107 12))))))) : Ct l E MX10_fails 0 0 0 [vR E 107, vI v1] G D Q := by
  refine Ct.of (by decide) (Nat.le_of_ble_eq_true rfl) ?_
  show KX10_fails l E Q 0 [(0, vR E 107), (1, vI v1)] G D
  refine go_aload_n 0 dX10_fails_0 rfl rfl ?_
  refine go_getI 17 (i := 17) f_X10_154 rfl (hL.1 107 _ rfl) dX10_fails_1 ?_
  refine go_rngI (c := 107) (i := 17) (hL.1 107 _ rfl) rfl (fun (q2 : -2147483648 ≤ (D 107 17) ∧ (D 107 17) < 2147483648) => ?_)
  refine go_if_ne 32 dX10_fails_4 (by decide) q2 (fun c3 => ?_) (fun c3 => ?_)
  · have h := h.1 c3
    refine go_iconst dX10_fails_32 ?_
    exact go_zreturn (Nat.le_refl _) (Nat.le_refl _) rfl (by decide) dX10_fails_33 h
  · have h := h.2 c3
    refine go_aload_n 0 dX10_fails_7 rfl rfl ?_
    refine go_aload_n 0 dX10_fails_8 rfl rfl ?_
    refine go_getI 11 (i := 11) f_X10_128 rfl (hL.1 107 _ rfl) dX10_fails_9 ?_
    refine go_iconst dX10_fails_12 ?_
    refine go_rngI (c := 107) (i := 11) (hL.1 107 _ rfl) rfl (fun (q6 : -2147483648 ≤ (D 107 11) ∧ (D 107 11) < 2147483648) => ?_)
    refine go_icmp_ne 20 dX10_fails_13 (by decide) q6 (by decide) (fun c7 => ?_) (fun c7 => ?_)
    · have h := h.1 c7
      obtain ⟨s8, h⟩ := h
      refine go_iload_n 1 dX10_fails_20 rfl rfl ?_
      refine go_putI 17 (i := 17) s8 f_X10_154 rfl (hL.1 107 _ rfl) dX10_fails_21 ?_
      refine go_aload_n 0 dX10_fails_24 rfl rfl ?_
      refine go_aload_n 0 dX10_fails_25 rfl rfl ?_
      refine go_getI 12 (i := 12) f_X10_122 rfl (hL.1 107 _ rfl) dX10_fails_26 ?_
      refine go_rngI (c := 107) (i := 12) (hL.1 107 _ rfl) rfl (fun (q9 : -2147483648 ≤ (D 107 12) ∧ (D 107 12) < 2147483648) => ?_)
      refine go_putI 16 (i := 16) q9 f_X10_38 rfl (hL.1 107 _ rfl) dX10_fails_29 ?_
      refine go_iconst dX10_fails_32 ?_
      exact go_zreturn (Nat.le_refl _) (Nat.le_refl _) rfl (by decide) dX10_fails_33 h
    · have h := h.2 c7
      refine go_iconst dX10_fails_16 ?_
      refine go_goto 21 dX10_fails_17 (by decide) ?_
      refine go_putI 17 (i := 17) (by decide) f_X10_154 rfl (hL.1 107 _ rfl) dX10_fails_21 ?_
      refine go_aload_n 0 dX10_fails_24 rfl rfl ?_
      refine go_aload_n 0 dX10_fails_25 rfl rfl ?_
      refine go_getI 12 (i := 12) f_X10_122 rfl (hL.1 107 _ rfl) dX10_fails_26 ?_
      refine go_rngI (c := 107) (i := 12) (hL.1 107 _ rfl) rfl (fun (q11 : -2147483648 ≤ (D 107 12) ∧ (D 107 12) < 2147483648) => ?_)
      refine go_putI 16 (i := 16) q11 f_X10_38 rfl (hL.1 107 _ rfl) dX10_fails_29 ?_
      refine go_iconst dX10_fails_32 ?_
      exact go_zreturn (Nat.le_refl _) (Nat.le_refl _) rfl (by decide) dX10_fails_33 h
theorem s_X10_wantWord {l : Launch} {E : Ev} {Q : Int → Sh → Dm → Prop} {G : Sh} {D : Dm} (hL : Lay G) {v1 : Int}  (h : C0 l E MX10_keyWord 0 [vR E 107] G D (fun r2 D2 => ((-2147483648 ≤ r2 ∧ r2 < 2147483648) ∧ (-2147483648 ≤ v1 ∧ v1 < 2147483648)) ∧ ((r2 = v1 → C0 l E MX10_ahead 2 [vR E 107] G D2 (fun r6 D6 => Q 1 G D6)) ∧ (r2 ≠ v1 → C0 l E MX10_fails 0 [vR E 107, vI 2] G D2 (fun r9 D9 => ((r9 = 0 ∨ r9 = 1)) ∧ Q r9 G D9))))) : Ct l E MX10_wantWord 0 0 0 [vR E 107, vI v1] G D Q := by
  refine Ct.of (by decide) (Nat.le_of_ble_eq_true rfl) ?_
  show KX10_wantWord l E Q 0 [(0, vR E 107), (1, vI v1)] G D
  refine go_aload_n 0 dX10_wantWord_0 rfl rfl ?_
  refine go_vI (M := MX10_keyWord) [] [] mv_X10_157 (hL.1 107 _ rfl) rfl (by decide) ⟨Nat.le_of_ble_eq_true rfl, Nat.le_of_ble_eq_true rfl⟩ ⟨Nat.le_refl _, Nat.le_refl _⟩ rfl rfl (Nat.le_of_ble_eq_true rfl) dX10_wantWord_1 h (fun r2 D2 h => ?_)
  obtain ⟨s3, h⟩ := h
  refine go_iload_n 1 dX10_wantWord_4 rfl rfl ?_
  refine go_icmp_eq 14 dX10_wantWord_5 (by decide) s3.1 s3.2 (fun c4 => ?_) (fun c4 => ?_)
  · have h := h.1 c4
    refine go_aload_n 0 dX10_wantWord_14 rfl rfl ?_
    refine go_vV (M := MX10_ahead) [] [] mv_X10_163 (hL.1 107 _ rfl) rfl (by decide) ⟨Nat.le_of_ble_eq_true rfl, Nat.le_of_ble_eq_true rfl⟩ ⟨Nat.le_refl _, Nat.le_refl _⟩ rfl rfl (Nat.le_of_ble_eq_true rfl) dX10_wantWord_15 h (fun r6 D6 h => ?_)
    refine go_iconst dX10_wantWord_18 ?_
    exact go_zreturn (Nat.le_refl _) (Nat.le_refl _) rfl (by decide) dX10_wantWord_19 h
  · have h := h.2 c4
    refine go_aload_n 0 dX10_wantWord_8 rfl rfl ?_
    refine go_iconst dX10_wantWord_9 ?_
    refine go_vI (M := MX10_fails) [vI 2] [] mv_X10_160 (hL.1 107 _ rfl) rfl (by decide) ⟨Nat.le_of_ble_eq_true rfl, Nat.le_of_ble_eq_true rfl⟩ ⟨Nat.le_refl _, Nat.le_refl _⟩ rfl rfl (Nat.le_of_ble_eq_true rfl) dX10_wantWord_10 h (fun r9 D9 h => ?_)
    obtain ⟨s10, h⟩ := h
    exact go_zreturn (Nat.le_refl _) (Nat.le_refl _) rfl s10 dX10_wantWord_13 h
theorem s_X10_isName {l : Launch} {E : Ev} {Q : Int → Sh → Dm → Prop} {G : Sh} {D : Dm} (hL : Lay G)  (h : (((D 107 11) ≠ 2 → Q 0 G D) ∧ ((D 107 11) = 2 → ((-2147483648 ≤ ((D 107 13) - (D 107 12)) ∧ ((D 107 13) - (D 107 12)) < 2147483648)) ∧ ((8 < ((D 107 13) - (D 107 12)) → Q 0 G D) ∧ (((D 107 13) - (D 107 12)) ≤ 8 → C0 l E MX10_keyWord 0 [vR E 107] G D (fun r9 D9 => ((-2147483648 ≤ r9 ∧ r9 < 2147483648)) ∧ ((r9 ≠ (-1) → Q 0 G D9) ∧ (r9 = (-1) → Q 1 G D9)))))))) : Ct l E MX10_isName 0 0 0 [vR E 107] G D Q := by
  refine Ct.of (by decide) (Nat.le_of_ble_eq_true rfl) ?_
  show KX10_isName l E Q 0 [(0, vR E 107)] G D
  refine go_aload_n 0 dX10_isName_0 rfl rfl ?_
  refine go_getI 11 (i := 11) f_X10_128 rfl (hL.1 107 _ rfl) dX10_isName_1 ?_
  refine go_iconst dX10_isName_4 ?_
  refine go_rngI (c := 107) (i := 11) (hL.1 107 _ rfl) rfl (fun (q2 : -2147483648 ≤ (D 107 11) ∧ (D 107 11) < 2147483648) => ?_)
  refine go_icmp_ne 34 dX10_isName_5 (by decide) q2 (by decide) (fun c3 => ?_) (fun c3 => ?_)
  · have h := h.1 c3
    refine go_iconst dX10_isName_34 ?_
    exact go_zreturn (Nat.le_refl _) (Nat.le_refl _) rfl (by decide) dX10_isName_35 h
  · have h := h.2 c3
    obtain ⟨s5, h⟩ := h
    refine go_aload_n 0 dX10_isName_8 rfl rfl ?_
    refine go_getI 13 (i := 13) f_X10_115 rfl (hL.1 107 _ rfl) dX10_isName_9 ?_
    refine go_aload_n 0 dX10_isName_12 rfl rfl ?_
    refine go_getI 12 (i := 12) f_X10_122 rfl (hL.1 107 _ rfl) dX10_isName_13 ?_
    refine go_isub dX10_isName_16 ?_
    refine go_bipush dX10_isName_17 (by decide) ?_
    refine go_icmp_gt 34 dX10_isName_19 (by decide) s5 (by decide) (fun c6 => ?_) (fun c6 => ?_)
    · have h := h.1 c6
      refine go_iconst dX10_isName_34 ?_
      exact go_zreturn (Nat.le_refl _) (Nat.le_refl _) rfl (by decide) dX10_isName_35 h
    · have h := h.2 c6
      refine go_aload_n 0 dX10_isName_22 rfl rfl ?_
      refine go_vI (M := MX10_keyWord) [] [] mv_X10_157 (hL.1 107 _ rfl) rfl (by decide) ⟨Nat.le_of_ble_eq_true rfl, Nat.le_of_ble_eq_true rfl⟩ ⟨Nat.le_refl _, Nat.le_refl _⟩ rfl rfl (Nat.le_of_ble_eq_true rfl) dX10_isName_23 h (fun r9 D9 h => ?_)
      obtain ⟨s10, h⟩ := h
      refine go_iconst dX10_isName_26 ?_
      refine go_icmp_ne 34 dX10_isName_27 (by decide) s10 (by decide) (fun c11 => ?_) (fun c11 => ?_)
      · have h := h.1 c11
        refine go_iconst dX10_isName_34 ?_
        exact go_zreturn (Nat.le_refl _) (Nat.le_refl _) rfl (by decide) dX10_isName_35 h
      · have h := h.2 c11
        refine go_iconst dX10_isName_30 ?_
        refine go_goto 35 dX10_isName_31 (by decide) ?_
        exact go_zreturn (Nat.le_refl _) (Nat.le_refl _) rfl (by decide) dX10_isName_35 h
theorem s_X10_nameHere {l : Launch} {E : Ev} {Q : Int → Sh → Dm → Prop} {G : Sh} {D : Dm} (hL : Lay G)  (h : KX10_nameHere l E Q 7 [(0, vR E 107), (1, vJ 0), (3, vI (D 107 12))] G D) : Ct l E MX10_nameHere 1 0 0 [vR E 107] G D Q := by
  refine Ct.of (by decide) (Nat.le_of_ble_eq_true rfl) ?_
  show KX10_nameHere l E Q 0 [(0, vR E 107)] G D
  refine go_lconst (x := 0) dX10_nameHere_0 rfl ?_
  refine go_lstore_n [1, 0] (L' := [(0, vR E 107), (1, vJ 0)]) dX10_nameHere_1 rfl (by decide) rfl ?_
  refine go_aload_n 0 dX10_nameHere_2 rfl rfl ?_
  refine go_getI 12 (i := 12) f_X10_122 rfl (hL.1 107 _ rfl) dX10_nameHere_3 ?_
  refine go_istore_n [1, 2, 0] (L' := [(0, vR E 107), (1, vJ 0), (3, vI (D 107 12))]) dX10_nameHere_6 rfl (by decide) rfl ?_
  exact h
theorem s_X10_nameHere_7 {l : Launch} {E : Ev} {Q : Int → Sh → Dm → Prop} {G : Sh} {D : Dm} (hL : Lay G) {v1 v3 : Int}  (h : ((-2147483648 ≤ v3 ∧ v3 < 2147483648)) ∧ (((D 107 13) ≤ v3 → Q v1 G D) ∧ (v3 < (D 107 13) → C0 l E MX10_byteAt 0 [vR E 107, vI v3] G D (fun r6 D6 => ((-2147483648 ≤ r6 ∧ r6 < 2147483648)) ∧ KX10_nameHere l E Q 7 [(0, vR E 107), (1, vJ (jO (jSl v1 8) r6)), (3, vI (v3 + 1))] G D6)))) : KX10_nameHere l E Q 7 [(0, vR E 107), (1, vJ v1), (3, vI v3)] G D := by
  obtain ⟨s1, h⟩ := h
  refine go_iload_n 2 dX10_nameHere_7 rfl rfl ?_
  refine go_aload_n 0 dX10_nameHere_8 rfl rfl ?_
  refine go_getI 13 (i := 13) f_X10_115 rfl (hL.1 107 _ rfl) dX10_nameHere_9 ?_
  refine go_rngI (c := 107) (i := 13) (hL.1 107 _ rfl) rfl (fun (q2 : -2147483648 ≤ (D 107 13) ∧ (D 107 13) < 2147483648) => ?_)
  refine go_icmp_ge 33 dX10_nameHere_12 (by decide) s1 q2 (fun c3 => ?_) (fun c3 => ?_)
  · have h := h.1 c3
    refine go_lload_n 1 dX10_nameHere_33 rfl rfl ?_
    exact go_lreturn (Nat.le_refl _) (Nat.le_refl _) rfl dX10_nameHere_34 h
  · have h := h.2 c3
    refine go_lload_n 1 dX10_nameHere_15 rfl rfl ?_
    refine go_bipush dX10_nameHere_16 (by decide) ?_
    refine go_lshl dX10_nameHere_18 ?_
    refine go_aload_n 0 dX10_nameHere_19 rfl rfl ?_
    refine go_iload_n 2 dX10_nameHere_20 rfl rfl ?_
    refine go_vI (M := MX10_byteAt) [vI v3] [vJ (jSl v1 8)] mv_X10_118 (hL.1 107 _ rfl) rfl (by decide) ⟨Nat.le_of_ble_eq_true rfl, Nat.le_of_ble_eq_true rfl⟩ ⟨Nat.le_refl _, Nat.le_refl _⟩ rfl rfl (Nat.le_of_ble_eq_true rfl) dX10_nameHere_21 h (fun r6 D6 h => ?_)
    obtain ⟨s7, h⟩ := h
    refine go_i2l s7 dX10_nameHere_24 ?_
    refine go_lor dX10_nameHere_25 ?_
    refine go_lstore_n [1, 0, 2] (L' := [(0, vR E 107), (1, vJ (jO (jSl v1 8) r6)), (3, vI v3)]) dX10_nameHere_26 rfl (by decide) rfl ?_
    refine go_iinc 2 [1, 2, 0] (L' := [(0, vR E 107), (1, vJ (jO (jSl v1 8) r6)), (3, vI (v3 + 1))]) dX10_nameHere_27 (by decide) rfl rfl ?_
    refine go_goto 7 dX10_nameHere_30 (by decide) ?_
    exact h
theorem s_X10_number {l : Launch} {E : Ev} {Q : Int → Sh → Dm → Prop} {G : Sh} {D : Dm} (hL : Lay G) {v1 v2 v3 : Int}  (h : (((D 107 11) = 3 → ((-2147483648 ≤ v2 ∧ v2 < 2147483648)) ∧ (((D 107 14) < v2 → C0 l E MX10_fails 0 [vR E 107, vI 4] G D (fun r8 D8 => ((r8 = 0 ∨ r8 = 1)) ∧ Q r8 G D8)) ∧ (v2 ≤ (D 107 14) → ((-2147483648 ≤ v3 ∧ v3 < 2147483648)) ∧ (((D 107 14) ≤ v3 → ((0 ≤ v1 ∧ v1 < 500)) ∧ C0 l E MX10_ahead 2 [vR E 107] G (upd2 D 108 v1 (D 107 14)) (fun r13 D13 => Q 1 G D13)) ∧ (v3 < (D 107 14) → C0 l E MX10_fails 0 [vR E 107, vI 4] G D (fun r16 D16 => ((r16 = 0 ∨ r16 = 1)) ∧ Q r16 G D16)))))) ∧ ((D 107 11) ≠ 3 → C0 l E MX10_fails 0 [vR E 107, vI 2] G D (fun r19 D19 => ((r19 = 0 ∨ r19 = 1)) ∧ Q r19 G D19)))) : Ct l E MX10_number 0 0 0 [vR E 107, vI v1, vI v2, vI v3] G D Q := by
  refine Ct.of (by decide) (Nat.le_of_ble_eq_true rfl) ?_
  show KX10_number l E Q 0 [(0, vR E 107), (1, vI v1), (2, vI v2), (3, vI v3)] G D
  refine go_aload_n 0 dX10_number_0 rfl rfl ?_
  refine go_getI 11 (i := 11) f_X10_128 rfl (hL.1 107 _ rfl) dX10_number_1 ?_
  refine go_iconst dX10_number_4 ?_
  refine go_rngI (c := 107) (i := 11) (hL.1 107 _ rfl) rfl (fun (q2 : -2147483648 ≤ (D 107 11) ∧ (D 107 11) < 2147483648) => ?_)
  refine go_icmp_eq 14 dX10_number_5 (by decide) q2 (by decide) (fun c3 => ?_) (fun c3 => ?_)
  · have h := h.1 c3
    obtain ⟨s4, h⟩ := h
    refine go_aload_n 0 dX10_number_14 rfl rfl ?_
    refine go_getI 14 (i := 14) f_X10_125 rfl (hL.1 107 _ rfl) dX10_number_15 ?_
    refine go_iload_n 2 dX10_number_18 rfl rfl ?_
    refine go_rngI (c := 107) (i := 14) (hL.1 107 _ rfl) rfl (fun (q5 : -2147483648 ≤ (D 107 14) ∧ (D 107 14) < 2147483648) => ?_)
    refine go_icmp_lt 30 dX10_number_19 (by decide) q5 s4 (fun c6 => ?_) (fun c6 => ?_)
    · have h := h.1 c6
      refine go_aload_n 0 dX10_number_30 rfl rfl ?_
      refine go_iconst dX10_number_31 ?_
      refine go_vI (M := MX10_fails) [vI 4] [] mv_X10_160 (hL.1 107 _ rfl) rfl (by decide) ⟨Nat.le_of_ble_eq_true rfl, Nat.le_of_ble_eq_true rfl⟩ ⟨Nat.le_refl _, Nat.le_refl _⟩ rfl rfl (Nat.le_of_ble_eq_true rfl) dX10_number_32 h (fun r8 D8 h => ?_)
      obtain ⟨s9, h⟩ := h
      exact go_zreturn (Nat.le_refl _) (Nat.le_refl _) rfl s9 dX10_number_35 h
    · have h := h.2 c6
      obtain ⟨s10, h⟩ := h
      refine go_aload_n 0 dX10_number_22 rfl rfl ?_
      refine go_getI 14 (i := 14) f_X10_125 rfl (hL.1 107 _ rfl) dX10_number_23 ?_
      refine go_iload_n 3 dX10_number_26 rfl rfl ?_
      refine go_icmp_le 36 dX10_number_27 (by decide) q5 s10 (fun c11 => ?_) (fun c11 => ?_)
      · have h := h.1 c11
        obtain ⟨s12, h⟩ := h
        refine go_aload_n 0 dX10_number_36 rfl rfl ?_
        refine go_getR 0 f_X10_7 rfl (hL.1 107 _ rfl) (hL.2.1 107 0 _ rfl (by decide)) dX10_number_37 ?_
        refine go_iload_n 1 dX10_number_40 rfl rfl ?_
        refine go_aload_n 0 dX10_number_41 rfl rfl ?_
        refine go_getI 14 (i := 14) f_X10_125 rfl (hL.1 107 _ rfl) dX10_number_42 ?_
        refine go_iastore (hL.1 108 _ rfl) (b := 500) rfl (by decide) s12 q5 dX10_number_45 ?_
        refine go_aload_n 0 dX10_number_46 rfl rfl ?_
        refine go_vV (M := MX10_ahead) [] [] mv_X10_163 (hL.1 107 _ rfl) rfl (by decide) ⟨Nat.le_of_ble_eq_true rfl, Nat.le_of_ble_eq_true rfl⟩ ⟨Nat.le_refl _, Nat.le_refl _⟩ rfl rfl (Nat.le_of_ble_eq_true rfl) dX10_number_47 h (fun r13 D13 h => ?_)
        refine go_iconst dX10_number_50 ?_
        exact go_zreturn (Nat.le_refl _) (Nat.le_refl _) rfl (by decide) dX10_number_51 h
      · have h := h.2 c11
        refine go_aload_n 0 dX10_number_30 rfl rfl ?_
        refine go_iconst dX10_number_31 ?_
        refine go_vI (M := MX10_fails) [vI 4] [] mv_X10_160 (hL.1 107 _ rfl) rfl (by decide) ⟨Nat.le_of_ble_eq_true rfl, Nat.le_of_ble_eq_true rfl⟩ ⟨Nat.le_refl _, Nat.le_refl _⟩ rfl rfl (Nat.le_of_ble_eq_true rfl) dX10_number_32 h (fun r16 D16 h => ?_)
        obtain ⟨s17, h⟩ := h
        exact go_zreturn (Nat.le_refl _) (Nat.le_refl _) rfl s17 dX10_number_35 h
  · have h := h.2 c3
    refine go_aload_n 0 dX10_number_8 rfl rfl ?_
    refine go_iconst dX10_number_9 ?_
    refine go_vI (M := MX10_fails) [vI 2] [] mv_X10_160 (hL.1 107 _ rfl) rfl (by decide) ⟨Nat.le_of_ble_eq_true rfl, Nat.le_of_ble_eq_true rfl⟩ ⟨Nat.le_refl _, Nat.le_refl _⟩ rfl rfl (Nat.le_of_ble_eq_true rfl) dX10_number_10 h (fun r19 D19 h => ?_)
    obtain ⟨s20, h⟩ := h
    exact go_zreturn (Nat.le_refl _) (Nat.le_refl _) rfl s20 dX10_number_13 h
theorem s_X10_finds {l : Launch} {E : Ev} {Q : Int → Sh → Dm → Prop} {G : Sh} {D : Dm} (hL : Lay G) {v1 v2 : Int}  (h : KX10_find l E Q 3 [(0, vR E 114), (1, vI v1), (2, vJ v2), (4, vI 0)] G D) : Ct l E MX10_find 0 0 0 [vR E 114, vI v1, vJ v2] G D Q := by
  refine Ct.of (by decide) (Nat.le_of_ble_eq_true rfl) ?_
  show KX10_find l E Q 0 [(0, vR E 114), (1, vI v1), (2, vJ v2)] G D
  refine go_iconst dX10_find_0 ?_
  refine go_istore [1, 2, 3, 0] (L' := [(0, vR E 114), (1, vI v1), (2, vJ v2), (4, vI 0)]) dX10_find_1 (by decide) rfl ?_
  exact h
theorem s_X10_finds_3 {l : Launch} {E : Ev} {Q : Int → Sh → Dm → Prop} {G : Sh} {D : Dm} (hL : Lay G) {v1 v2 v4 : Int}  (h : ((-2147483648 ≤ v4 ∧ v4 < 2147483648) ∧ (-2147483648 ≤ v1 ∧ v1 < 2147483648)) ∧ ((v1 ≤ v4 → Q (-1) G D) ∧ (v4 < v1 → ((0 ≤ v4 ∧ v4 < 10) ∧ (-9223372036854775808 ≤ v2 ∧ v2 < 9223372036854775808)) ∧ (((D 114 v4) ≠ v2 → KX10_find l E Q 3 [(0, vR E 114), (1, vI v1), (2, vJ v2), (4, vI (v4 + 1))] G D) ∧ ((D 114 v4) = v2 → Q v4 G D))))) : KX10_find l E Q 3 [(0, vR E 114), (1, vI v1), (2, vJ v2), (4, vI v4)] G D := by
  obtain ⟨s1, h⟩ := h
  refine go_iload 3 dX10_find_3 rfl ?_
  refine go_iload_n 1 dX10_find_5 rfl rfl ?_
  refine go_icmp_ge 27 dX10_find_6 (by decide) s1.1 s1.2 (fun c2 => ?_) (fun c2 => ?_)
  · have h := h.1 c2
    refine go_iconst dX10_find_27 ?_
    exact go_ireturn (Nat.le_refl _) (Nat.le_refl _) rfl dX10_find_28 h
  · have h := h.2 c2
    obtain ⟨s4, h⟩ := h
    refine go_aload_n 0 dX10_find_9 rfl rfl ?_
    refine go_iload 3 dX10_find_10 rfl ?_
    refine go_laload (hL.1 114 _ rfl) (b := 10) rfl (by decide) s4.1 dX10_find_12 ?_
    refine go_lload_n 2 dX10_find_13 rfl rfl ?_
    refine go_rngJ (c := 114) (i := v4) (hL.1 114 _ rfl) rfl (fun (q5 : -9223372036854775808 ≤ (D 114 v4) ∧ (D 114 v4) < 9223372036854775808) => ?_)
    refine go_lcmp_ne 21 dX10_find_14 dX10_find_15 (by decide) q5 s4.2 (fun c6 => ?_) (fun c6 => ?_)
    · have h := h.1 c6
      refine go_iinc 3 [1, 2, 3, 0] (L' := [(0, vR E 114), (1, vI v1), (2, vJ v2), (4, vI (v4 + 1))]) dX10_find_21 (by decide) rfl rfl ?_
      refine go_goto 3 dX10_find_24 (by decide) ?_
      exact h
    · have h := h.2 c6
      refine go_iload 3 dX10_find_18 rfl ?_
      exact go_ireturn (Nat.le_refl _) (Nat.le_refl _) rfl dX10_find_20 h
theorem s_X10_findf {l : Launch} {E : Ev} {Q : Int → Sh → Dm → Prop} {G : Sh} {D : Dm} (hL : Lay G) {v1 v2 : Int}  (h : KX10_find l E Q 3 [(0, vR E 115), (1, vI v1), (2, vJ v2), (4, vI 0)] G D) : Ct l E MX10_find 0 0 0 [vR E 115, vI v1, vJ v2] G D Q := by
  refine Ct.of (by decide) (Nat.le_of_ble_eq_true rfl) ?_
  show KX10_find l E Q 0 [(0, vR E 115), (1, vI v1), (2, vJ v2)] G D
  refine go_iconst dX10_find_0 ?_
  refine go_istore [1, 2, 3, 0] (L' := [(0, vR E 115), (1, vI v1), (2, vJ v2), (4, vI 0)]) dX10_find_1 (by decide) rfl ?_
  exact h
theorem s_X10_findf_3 {l : Launch} {E : Ev} {Q : Int → Sh → Dm → Prop} {G : Sh} {D : Dm} (hL : Lay G) {v1 v2 v4 : Int}  (h : ((-2147483648 ≤ v4 ∧ v4 < 2147483648) ∧ (-2147483648 ≤ v1 ∧ v1 < 2147483648)) ∧ ((v1 ≤ v4 → Q (-1) G D) ∧ (v4 < v1 → ((0 ≤ v4 ∧ v4 < 4) ∧ (-9223372036854775808 ≤ v2 ∧ v2 < 9223372036854775808)) ∧ (((D 115 v4) ≠ v2 → KX10_find l E Q 3 [(0, vR E 115), (1, vI v1), (2, vJ v2), (4, vI (v4 + 1))] G D) ∧ ((D 115 v4) = v2 → Q v4 G D))))) : KX10_find l E Q 3 [(0, vR E 115), (1, vI v1), (2, vJ v2), (4, vI v4)] G D := by
  obtain ⟨s1, h⟩ := h
  refine go_iload 3 dX10_find_3 rfl ?_
  refine go_iload_n 1 dX10_find_5 rfl rfl ?_
  refine go_icmp_ge 27 dX10_find_6 (by decide) s1.1 s1.2 (fun c2 => ?_) (fun c2 => ?_)
  · have h := h.1 c2
    refine go_iconst dX10_find_27 ?_
    exact go_ireturn (Nat.le_refl _) (Nat.le_refl _) rfl dX10_find_28 h
  · have h := h.2 c2
    obtain ⟨s4, h⟩ := h
    refine go_aload_n 0 dX10_find_9 rfl rfl ?_
    refine go_iload 3 dX10_find_10 rfl ?_
    refine go_laload (hL.1 115 _ rfl) (b := 4) rfl (by decide) s4.1 dX10_find_12 ?_
    refine go_lload_n 2 dX10_find_13 rfl rfl ?_
    refine go_rngJ (c := 115) (i := v4) (hL.1 115 _ rfl) rfl (fun (q5 : -9223372036854775808 ≤ (D 115 v4) ∧ (D 115 v4) < 9223372036854775808) => ?_)
    refine go_lcmp_ne 21 dX10_find_14 dX10_find_15 (by decide) q5 s4.2 (fun c6 => ?_) (fun c6 => ?_)
    · have h := h.1 c6
      refine go_iinc 3 [1, 2, 3, 0] (L' := [(0, vR E 115), (1, vI v1), (2, vJ v2), (4, vI (v4 + 1))]) dX10_find_21 (by decide) rfl rfl ?_
      refine go_goto 3 dX10_find_24 (by decide) ?_
      exact h
    · have h := h.2 c6
      refine go_iload 3 dX10_find_18 rfl ?_
      exact go_ireturn (Nat.le_refl _) (Nat.le_refl _) rfl dX10_find_20 h
theorem s_X10_aStrip {l : Launch} {E : Ev} {Q : Int → Sh → Dm → Prop} {G : Sh} {D : Dm} (hL : Lay G)  (h : (((D 108 400) ≠ 10 → C0 l E MX10_ahead 2 [vR E 107] G D (fun r5 D5 => C0 l E MX10_isName 0 [vR E 107] G D5 (fun r7 D7 => ((-2147483648 ≤ r7 ∧ r7 < 2147483648)) ∧ ((r7 ≠ 0 → C0 l E MX10_nameHere 1 [vR E 107] G D7 (fun r11 D11 => C0 l E MX10_find 0 [vR E 114, vI (D 108 400), vJ r11] G D11 (fun r13 D13 => ((-2147483648 ≤ r13 ∧ r13 < 2147483648)) ∧ ((r13 = (-1) → C0 l E MX10_nameHere 1 [vR E 107] G D13 (fun r17 D17 => ((0 ≤ (D 108 400) ∧ (D 108 400) < 10) ∧ (-9223372036854775808 ≤ r17 ∧ r17 < 9223372036854775808)) ∧ C0 l E MX10_ahead 2 [vR E 107] G (upd2 D17 114 (D 108 400) r17) (fun r19 D19 => C0 l E MX10_wantWord 0 [vR E 107, vI 6] G D19 (fun r21 D21 => ((-2147483648 ≤ r21 ∧ r21 < 2147483648)) ∧ ((r21 = 0 → Q 0 G D21) ∧ (r21 ≠ 0 → C0 l E MX10_number 0 [vR E 107, vI (408 + (5 * (D 108 400))), vI 0, vI 99] G D21 (fun r26 D26 => ((-2147483648 ≤ r26 ∧ r26 < 2147483648)) ∧ ((r26 = 0 → Q 0 G D26) ∧ (r26 ≠ 0 → C0 l E MX10_number 0 [vR E 107, vI ((408 + (5 * (D 108 400))) + 1), vI 0, vI 99] G D26 (fun r31 D31 => ((-2147483648 ≤ r31 ∧ r31 < 2147483648)) ∧ ((r31 = 0 → Q 0 G D31) ∧ (r31 ≠ 0 → C0 l E MX10_wantWord 0 [vR E 107, vI 7] G D31 (fun r36 D36 => ((-2147483648 ≤ r36 ∧ r36 < 2147483648)) ∧ ((r36 = 0 → Q 0 G D36) ∧ (r36 ≠ 0 → C0 l E MX10_number 0 [vR E 107, vI ((408 + (5 * (D 108 400))) + 2), vI 1, vI 99] G D36 (fun r41 D41 => ((-2147483648 ≤ r41 ∧ r41 < 2147483648)) ∧ ((r41 ≠ 0 → ((0 ≤ ((408 + (5 * (D 108 400))) + 3) ∧ ((408 + (5 * (D 108 400))) + 3) < 500) ∧ (0 ≤ ((408 + (5 * (D 108 400))) + 4) ∧ ((408 + (5 * (D 108 400))) + 4) < 500) ∧ (-2147483648 ≤ (((upd2 (upd2 D41 108 ((408 + (5 * (D 108 400))) + 3) 1) 108 ((408 + (5 * (D 108 400))) + 4) (-1)) 108 400) + 1) ∧ (((upd2 (upd2 D41 108 ((408 + (5 * (D 108 400))) + 3) 1) 108 ((408 + (5 * (D 108 400))) + 4) (-1)) 108 400) + 1) < 2147483648)) ∧ C0 l E MX10_keyWord 0 [vR E 107] G (upd2 (upd2 (upd2 D41 108 ((408 + (5 * (D 108 400))) + 3) 1) 108 ((408 + (5 * (D 108 400))) + 4) (-1)) 108 400 (((upd2 (upd2 D41 108 ((408 + (5 * (D 108 400))) + 3) 1) 108 ((408 + (5 * (D 108 400))) + 4) (-1)) 108 400) + 1)) (fun r45 D45 => ((-2147483648 ≤ r45 ∧ r45 < 2147483648)) ∧ ((r45 = 8 → C0 l E MX10_ahead 2 [vR E 107] G D45 (fun r49 D49 => C0 l E MX10_number 0 [vR E 107, vI ((408 + (5 * (D 108 400))) + 3), vI 1, vI 3] G D49 (fun r51 D51 => ((r51 = 0 ∨ r51 = 1)) ∧ Q r51 G D51))) ∧ (r45 ≠ 8 → Q 1 G D45)))) ∧ (r41 = 0 → Q 0 G D41)))))))))))))))))) ∧ (r13 ≠ (-1) → C0 l E MX10_fails 0 [vR E 107, vI 3] G D13 (fun r56 D56 => ((r56 = 0 ∨ r56 = 1)) ∧ Q r56 G D56)))))) ∧ (r7 = 0 → C0 l E MX10_fails 0 [vR E 107, vI 2] G D7 (fun r59 D59 => ((r59 = 0 ∨ r59 = 1)) ∧ Q r59 G D59)))))) ∧ ((D 108 400) = 10 → C0 l E MX10_fails 0 [vR E 107, vI 5] G D (fun r62 D62 => ((r62 = 0 ∨ r62 = 1)) ∧ Q r62 G D62)))) : Ct l E MX10_aStrip 0 0 0 [vR E 107] G D Q := by
  refine Ct.of (by decide) (Nat.le_of_ble_eq_true rfl) ?_
  show KX10_aStrip l E Q 0 [(0, vR E 107)] G D
  refine go_aload_n 0 dX10_aStrip_0 rfl rfl ?_
  refine go_getR 0 f_X10_7 rfl (hL.1 107 _ rfl) (hL.2.1 107 0 _ rfl (by decide)) dX10_aStrip_1 ?_
  refine go_sipush dX10_aStrip_4 (by decide) ?_
  refine go_iaload (hL.1 108 _ rfl) (b := 500) rfl (by decide) (by decide) dX10_aStrip_7 ?_
  refine go_istore_n [1, 0] (L' := [(0, vR E 107), (1, vI (D 108 400))]) dX10_aStrip_8 rfl (by decide) rfl ?_
  refine go_sipush dX10_aStrip_9 (by decide) ?_
  refine go_iconst dX10_aStrip_12 ?_
  refine go_iload_n 1 dX10_aStrip_13 rfl rfl ?_
  refine go_imul dX10_aStrip_14 ?_
  refine go_iadd dX10_aStrip_15 ?_
  refine go_istore_n [1, 2, 0] (L' := [(0, vR E 107), (1, vI (D 108 400)), (2, vI (408 + (5 * (D 108 400))))]) dX10_aStrip_16 rfl (by decide) rfl ?_
  refine go_iload_n 1 dX10_aStrip_17 rfl rfl ?_
  refine go_bipush dX10_aStrip_18 (by decide) ?_
  refine go_rngI (c := 108) (i := 400) (hL.1 108 _ rfl) rfl (fun (q2 : -2147483648 ≤ (D 108 400) ∧ (D 108 400) < 2147483648) => ?_)
  refine go_icmp_ne 29 dX10_aStrip_20 (by decide) q2 (by decide) (fun c3 => ?_) (fun c3 => ?_)
  · have h := h.1 c3
    refine go_aload_n 0 dX10_aStrip_29 rfl rfl ?_
    refine go_vV (M := MX10_ahead) [] [] mv_X10_163 (hL.1 107 _ rfl) rfl (by decide) ⟨Nat.le_of_ble_eq_true rfl, Nat.le_of_ble_eq_true rfl⟩ ⟨Nat.le_refl _, Nat.le_refl _⟩ rfl rfl (Nat.le_of_ble_eq_true rfl) dX10_aStrip_30 h (fun r5 D5 h => ?_)
    refine go_aload_n 0 dX10_aStrip_33 rfl rfl ?_
    refine go_vI (M := MX10_isName) [] [] mv_X10_166 (hL.1 107 _ rfl) rfl (by decide) ⟨Nat.le_of_ble_eq_true rfl, Nat.le_of_ble_eq_true rfl⟩ ⟨Nat.le_refl _, Nat.le_refl _⟩ rfl rfl (Nat.le_of_ble_eq_true rfl) dX10_aStrip_34 h (fun r7 D7 h => ?_)
    obtain ⟨s8, h⟩ := h
    refine go_if_ne 46 dX10_aStrip_37 (by decide) s8 (fun c9 => ?_) (fun c9 => ?_)
    · have h := h.1 c9
      refine go_aload_n 0 dX10_aStrip_46 rfl rfl ?_
      refine go_getR 18 f_X10_41 rfl (hL.1 107 _ rfl) (hL.2.1 107 18 _ rfl (by decide)) dX10_aStrip_47 ?_
      refine go_iload_n 1 dX10_aStrip_50 rfl rfl ?_
      refine go_aload_n 0 dX10_aStrip_51 rfl rfl ?_
      refine go_vJ (M := MX10_nameHere) [] [vI (D 108 400), vR E 114] mv_X10_170 (hL.1 107 _ rfl) rfl (by decide) ⟨Nat.le_of_ble_eq_true rfl, Nat.le_of_ble_eq_true rfl⟩ ⟨Nat.le_refl _, Nat.le_refl _⟩ rfl rfl (Nat.le_of_ble_eq_true rfl) dX10_aStrip_52 h (fun r11 D11 h => ?_)
      refine go_sI (M := MX10_find) [vR E 114, vI (D 108 400), vJ r11] [] ms_X10_174 ⟨Nat.le_of_ble_eq_true rfl, Nat.le_of_ble_eq_true rfl⟩ ⟨Nat.le_refl _, Nat.le_refl _⟩ rfl rfl (Nat.le_of_ble_eq_true rfl) dX10_aStrip_55 h (fun r13 D13 h => ?_)
      obtain ⟨s14, h⟩ := h
      refine go_iconst dX10_aStrip_58 ?_
      refine go_icmp_eq 68 dX10_aStrip_59 (by decide) s14 (by decide) (fun c15 => ?_) (fun c15 => ?_)
      · have h := h.1 c15
        refine go_aload_n 0 dX10_aStrip_68 rfl rfl ?_
        refine go_getR 18 f_X10_41 rfl (hL.1 107 _ rfl) (hL.2.1 107 18 _ rfl (by decide)) dX10_aStrip_69 ?_
        refine go_iload_n 1 dX10_aStrip_72 rfl rfl ?_
        refine go_aload_n 0 dX10_aStrip_73 rfl rfl ?_
        refine go_vJ (M := MX10_nameHere) [] [vI (D 108 400), vR E 114] mv_X10_170 (hL.1 107 _ rfl) rfl (by decide) ⟨Nat.le_of_ble_eq_true rfl, Nat.le_of_ble_eq_true rfl⟩ ⟨Nat.le_refl _, Nat.le_refl _⟩ rfl rfl (Nat.le_of_ble_eq_true rfl) dX10_aStrip_74 h (fun r17 D17 h => ?_)
        obtain ⟨s18, h⟩ := h
        refine go_lastore (hL.1 114 _ rfl) (b := 10) rfl (by decide) s18.1 s18.2 dX10_aStrip_77 ?_
        refine go_aload_n 0 dX10_aStrip_78 rfl rfl ?_
        refine go_vV (M := MX10_ahead) [] [] mv_X10_163 (hL.1 107 _ rfl) rfl (by decide) ⟨Nat.le_of_ble_eq_true rfl, Nat.le_of_ble_eq_true rfl⟩ ⟨Nat.le_refl _, Nat.le_refl _⟩ rfl rfl (Nat.le_of_ble_eq_true rfl) dX10_aStrip_79 h (fun r19 D19 h => ?_)
        refine go_aload_n 0 dX10_aStrip_82 rfl rfl ?_
        refine go_bipush dX10_aStrip_83 (by decide) ?_
        refine go_vI (M := MX10_wantWord) [vI 6] [] mv_X10_178 (hL.1 107 _ rfl) rfl (by decide) ⟨Nat.le_of_ble_eq_true rfl, Nat.le_of_ble_eq_true rfl⟩ ⟨Nat.le_refl _, Nat.le_refl _⟩ rfl rfl (Nat.le_of_ble_eq_true rfl) dX10_aStrip_85 h (fun r21 D21 h => ?_)
        obtain ⟨s22, h⟩ := h
        refine go_if_eq 137 dX10_aStrip_88 (by decide) s22 (fun c23 => ?_) (fun c23 => ?_)
        · have h := h.1 c23
          refine go_iconst dX10_aStrip_137 ?_
          exact go_zreturn (Nat.le_refl _) (Nat.le_refl _) rfl (by decide) dX10_aStrip_138 h
        · have h := h.2 c23
          refine go_aload_n 0 dX10_aStrip_91 rfl rfl ?_
          refine go_iload_n 2 dX10_aStrip_92 rfl rfl ?_
          refine go_iconst dX10_aStrip_93 ?_
          refine go_bipush dX10_aStrip_94 (by decide) ?_
          refine go_vI (M := MX10_number) [vI (408 + (5 * (D 108 400))), vI 0, vI 99] [] mv_X10_181 (hL.1 107 _ rfl) rfl (by decide) ⟨Nat.le_of_ble_eq_true rfl, Nat.le_of_ble_eq_true rfl⟩ ⟨Nat.le_refl _, Nat.le_refl _⟩ rfl rfl (Nat.le_of_ble_eq_true rfl) dX10_aStrip_96 h (fun r26 D26 h => ?_)
          obtain ⟨s27, h⟩ := h
          refine go_if_eq 137 dX10_aStrip_99 (by decide) s27 (fun c28 => ?_) (fun c28 => ?_)
          · have h := h.1 c28
            refine go_iconst dX10_aStrip_137 ?_
            exact go_zreturn (Nat.le_refl _) (Nat.le_refl _) rfl (by decide) dX10_aStrip_138 h
          · have h := h.2 c28
            refine go_aload_n 0 dX10_aStrip_102 rfl rfl ?_
            refine go_iload_n 2 dX10_aStrip_103 rfl rfl ?_
            refine go_iconst dX10_aStrip_104 ?_
            refine go_iadd dX10_aStrip_105 ?_
            refine go_iconst dX10_aStrip_106 ?_
            refine go_bipush dX10_aStrip_107 (by decide) ?_
            refine go_vI (M := MX10_number) [vI ((408 + (5 * (D 108 400))) + 1), vI 0, vI 99] [] mv_X10_181 (hL.1 107 _ rfl) rfl (by decide) ⟨Nat.le_of_ble_eq_true rfl, Nat.le_of_ble_eq_true rfl⟩ ⟨Nat.le_refl _, Nat.le_refl _⟩ rfl rfl (Nat.le_of_ble_eq_true rfl) dX10_aStrip_109 h (fun r31 D31 h => ?_)
            obtain ⟨s32, h⟩ := h
            refine go_if_eq 137 dX10_aStrip_112 (by decide) s32 (fun c33 => ?_) (fun c33 => ?_)
            · have h := h.1 c33
              refine go_iconst dX10_aStrip_137 ?_
              exact go_zreturn (Nat.le_refl _) (Nat.le_refl _) rfl (by decide) dX10_aStrip_138 h
            · have h := h.2 c33
              refine go_aload_n 0 dX10_aStrip_115 rfl rfl ?_
              refine go_bipush dX10_aStrip_116 (by decide) ?_
              refine go_vI (M := MX10_wantWord) [vI 7] [] mv_X10_178 (hL.1 107 _ rfl) rfl (by decide) ⟨Nat.le_of_ble_eq_true rfl, Nat.le_of_ble_eq_true rfl⟩ ⟨Nat.le_refl _, Nat.le_refl _⟩ rfl rfl (Nat.le_of_ble_eq_true rfl) dX10_aStrip_118 h (fun r36 D36 h => ?_)
              obtain ⟨s37, h⟩ := h
              refine go_if_eq 137 dX10_aStrip_121 (by decide) s37 (fun c38 => ?_) (fun c38 => ?_)
              · have h := h.1 c38
                refine go_iconst dX10_aStrip_137 ?_
                exact go_zreturn (Nat.le_refl _) (Nat.le_refl _) rfl (by decide) dX10_aStrip_138 h
              · have h := h.2 c38
                refine go_aload_n 0 dX10_aStrip_124 rfl rfl ?_
                refine go_iload_n 2 dX10_aStrip_125 rfl rfl ?_
                refine go_iconst dX10_aStrip_126 ?_
                refine go_iadd dX10_aStrip_127 ?_
                refine go_iconst dX10_aStrip_128 ?_
                refine go_bipush dX10_aStrip_129 (by decide) ?_
                refine go_vI (M := MX10_number) [vI ((408 + (5 * (D 108 400))) + 2), vI 1, vI 99] [] mv_X10_181 (hL.1 107 _ rfl) rfl (by decide) ⟨Nat.le_of_ble_eq_true rfl, Nat.le_of_ble_eq_true rfl⟩ ⟨Nat.le_refl _, Nat.le_refl _⟩ rfl rfl (Nat.le_of_ble_eq_true rfl) dX10_aStrip_131 h (fun r41 D41 h => ?_)
                obtain ⟨s42, h⟩ := h
                refine go_if_ne 139 dX10_aStrip_134 (by decide) s42 (fun c43 => ?_) (fun c43 => ?_)
                · have h := h.1 c43
                  obtain ⟨s44, h⟩ := h
                  refine go_aload_n 0 dX10_aStrip_139 rfl rfl ?_
                  refine go_getR 0 f_X10_7 rfl (hL.1 107 _ rfl) (hL.2.1 107 0 _ rfl (by decide)) dX10_aStrip_140 ?_
                  refine go_iload_n 2 dX10_aStrip_143 rfl rfl ?_
                  refine go_iconst dX10_aStrip_144 ?_
                  refine go_iadd dX10_aStrip_145 ?_
                  refine go_iconst dX10_aStrip_146 ?_
                  refine go_iastore (hL.1 108 _ rfl) (b := 500) rfl (by decide) s44.1 (by decide) dX10_aStrip_147 ?_
                  refine go_aload_n 0 dX10_aStrip_148 rfl rfl ?_
                  refine go_getR 0 f_X10_7 rfl (hL.1 107 _ rfl) (hL.2.1 107 0 _ rfl (by decide)) dX10_aStrip_149 ?_
                  refine go_iload_n 2 dX10_aStrip_152 rfl rfl ?_
                  refine go_iconst dX10_aStrip_153 ?_
                  refine go_iadd dX10_aStrip_154 ?_
                  refine go_iconst dX10_aStrip_155 ?_
                  refine go_iastore (hL.1 108 _ rfl) (b := 500) rfl (by decide) s44.2.1 (by decide) dX10_aStrip_156 ?_
                  refine go_aload_n 0 dX10_aStrip_157 rfl rfl ?_
                  refine go_getR 0 f_X10_7 rfl (hL.1 107 _ rfl) (hL.2.1 107 0 _ rfl (by decide)) dX10_aStrip_158 ?_
                  refine go_sipush dX10_aStrip_161 (by decide) ?_
                  refine go_dup2 rfl rfl dX10_aStrip_164 ?_
                  refine go_iaload (hL.1 108 _ rfl) (b := 500) rfl (by decide) (by decide) dX10_aStrip_165 ?_
                  refine go_iconst dX10_aStrip_166 ?_
                  refine go_iadd dX10_aStrip_167 ?_
                  refine go_iastore (hL.1 108 _ rfl) (b := 500) rfl (by decide) (by decide) s44.2.2 dX10_aStrip_168 ?_
                  refine go_aload_n 0 dX10_aStrip_169 rfl rfl ?_
                  refine go_vI (M := MX10_keyWord) [] [] mv_X10_157 (hL.1 107 _ rfl) rfl (by decide) ⟨Nat.le_of_ble_eq_true rfl, Nat.le_of_ble_eq_true rfl⟩ ⟨Nat.le_refl _, Nat.le_refl _⟩ rfl rfl (Nat.le_of_ble_eq_true rfl) dX10_aStrip_170 h (fun r45 D45 h => ?_)
                  obtain ⟨s46, h⟩ := h
                  refine go_bipush dX10_aStrip_173 (by decide) ?_
                  refine go_icmp_eq 180 dX10_aStrip_175 (by decide) s46 (by decide) (fun c47 => ?_) (fun c47 => ?_)
                  · have h := h.1 c47
                    refine go_aload_n 0 dX10_aStrip_180 rfl rfl ?_
                    refine go_vV (M := MX10_ahead) [] [] mv_X10_163 (hL.1 107 _ rfl) rfl (by decide) ⟨Nat.le_of_ble_eq_true rfl, Nat.le_of_ble_eq_true rfl⟩ ⟨Nat.le_refl _, Nat.le_refl _⟩ rfl rfl (Nat.le_of_ble_eq_true rfl) dX10_aStrip_181 h (fun r49 D49 h => ?_)
                    refine go_aload_n 0 dX10_aStrip_184 rfl rfl ?_
                    refine go_iload_n 2 dX10_aStrip_185 rfl rfl ?_
                    refine go_iconst dX10_aStrip_186 ?_
                    refine go_iadd dX10_aStrip_187 ?_
                    refine go_iconst dX10_aStrip_188 ?_
                    refine go_iconst dX10_aStrip_189 ?_
                    refine go_vI (M := MX10_number) [vI ((408 + (5 * (D 108 400))) + 3), vI 1, vI 3] [] mv_X10_181 (hL.1 107 _ rfl) rfl (by decide) ⟨Nat.le_of_ble_eq_true rfl, Nat.le_of_ble_eq_true rfl⟩ ⟨Nat.le_refl _, Nat.le_refl _⟩ rfl rfl (Nat.le_of_ble_eq_true rfl) dX10_aStrip_190 h (fun r51 D51 h => ?_)
                    obtain ⟨s52, h⟩ := h
                    exact go_zreturn (Nat.le_refl _) (Nat.le_refl _) rfl s52 dX10_aStrip_193 h
                  · have h := h.2 c47
                    refine go_iconst dX10_aStrip_178 ?_
                    exact go_zreturn (Nat.le_refl _) (Nat.le_refl _) rfl (by decide) dX10_aStrip_179 h
                · have h := h.2 c43
                  refine go_iconst dX10_aStrip_137 ?_
                  exact go_zreturn (Nat.le_refl _) (Nat.le_refl _) rfl (by decide) dX10_aStrip_138 h
      · have h := h.2 c15
        refine go_aload_n 0 dX10_aStrip_62 rfl rfl ?_
        refine go_iconst dX10_aStrip_63 ?_
        refine go_vI (M := MX10_fails) [vI 3] [] mv_X10_160 (hL.1 107 _ rfl) rfl (by decide) ⟨Nat.le_of_ble_eq_true rfl, Nat.le_of_ble_eq_true rfl⟩ ⟨Nat.le_refl _, Nat.le_refl _⟩ rfl rfl (Nat.le_of_ble_eq_true rfl) dX10_aStrip_64 h (fun r56 D56 h => ?_)
        obtain ⟨s57, h⟩ := h
        exact go_zreturn (Nat.le_refl _) (Nat.le_refl _) rfl s57 dX10_aStrip_67 h
    · have h := h.2 c9
      refine go_aload_n 0 dX10_aStrip_40 rfl rfl ?_
      refine go_iconst dX10_aStrip_41 ?_
      refine go_vI (M := MX10_fails) [vI 2] [] mv_X10_160 (hL.1 107 _ rfl) rfl (by decide) ⟨Nat.le_of_ble_eq_true rfl, Nat.le_of_ble_eq_true rfl⟩ ⟨Nat.le_refl _, Nat.le_refl _⟩ rfl rfl (Nat.le_of_ble_eq_true rfl) dX10_aStrip_42 h (fun r59 D59 h => ?_)
      obtain ⟨s60, h⟩ := h
      exact go_zreturn (Nat.le_refl _) (Nat.le_refl _) rfl s60 dX10_aStrip_45 h
  · have h := h.2 c3
    refine go_aload_n 0 dX10_aStrip_23 rfl rfl ?_
    refine go_iconst dX10_aStrip_24 ?_
    refine go_vI (M := MX10_fails) [vI 5] [] mv_X10_160 (hL.1 107 _ rfl) rfl (by decide) ⟨Nat.le_of_ble_eq_true rfl, Nat.le_of_ble_eq_true rfl⟩ ⟨Nat.le_refl _, Nat.le_refl _⟩ rfl rfl (Nat.le_of_ble_eq_true rfl) dX10_aStrip_25 h (fun r62 D62 h => ?_)
    obtain ⟨s63, h⟩ := h
    exact go_zreturn (Nat.le_refl _) (Nat.le_refl _) rfl s63 dX10_aStrip_28 h
theorem s_X10_aHarm {l : Launch} {E : Ev} {Q : Int → Sh → Dm → Prop} {G : Sh} {D : Dm} (hL : Lay G) {v1 : Int}  (h : (((D 108 401) ≠ 6 → C0 l E MX10_ahead 2 [vR E 107] G D (fun r5 D5 => ((0 ≤ (458 + (5 * (D 108 401))) ∧ (458 + (5 * (D 108 401))) < 500) ∧ (-2147483648 ≤ v1 ∧ v1 < 2147483648)) ∧ ((v1 ≠ 0 → ((v1 = 1 → ((v1 ≠ 1 → ((v1 ≠ 1 → C0 l E MX10_number 0 [vR E 107, vI ((458 + (5 * (D 108 401))) + 1), vI 1, vI 3] G (upd2 D5 108 (458 + (5 * (D 108 401))) v1) (fun r15 D15 => ((-2147483648 ≤ r15 ∧ r15 < 2147483648)) ∧ ((r15 ≠ 0 → C0 l E MX10_wantWord 0 [vR E 107, vI 12] G D15 (fun r19 D19 => ((-2147483648 ≤ r19 ∧ r19 < 2147483648)) ∧ ((r19 = 0 → Q 0 G D19) ∧ (r19 ≠ 0 → C0 l E MX10_number 0 [vR E 107, vI ((458 + (5 * (D 108 401))) + 3), vI 0, vI 8] G D19 (fun r24 D24 => ((-2147483648 ≤ r24 ∧ r24 < 2147483648)) ∧ ((r24 = 0 → Q 0 G D24) ∧ (r24 ≠ 0 → C0 l E MX10_wantWord 0 [vR E 107, vI 13] G D24 (fun r29 D29 => ((-2147483648 ≤ r29 ∧ r29 < 2147483648)) ∧ ((r29 = 0 → Q 0 G D29) ∧ (r29 ≠ 0 → C0 l E MX10_number 0 [vR E 107, vI ((458 + (5 * (D 108 401))) + 4), vI 0, vI 16] G D29 (fun r34 D34 => ((-2147483648 ≤ r34 ∧ r34 < 2147483648)) ∧ ((r34 ≠ 0 → ((-2147483648 ≤ ((D34 108 401) + 1) ∧ ((D34 108 401) + 1) < 2147483648)) ∧ Q 1 G (upd2 D34 108 401 ((D34 108 401) + 1))) ∧ (r34 = 0 → Q 0 G D34))))))))))))) ∧ (r15 = 0 → Q 0 G D15)))) ∧ (v1 = 1 → C0 l E MX10_number 0 [vR E 107, vI ((458 + (5 * (D 108 401))) + 1), vI 1, vI 99] G (upd2 D5 108 (458 + (5 * (D 108 401))) v1) (fun r41 D41 => ((-2147483648 ≤ r41 ∧ r41 < 2147483648)) ∧ ((r41 ≠ 0 → C0 l E MX10_wantWord 0 [vR E 107, vI 12] G D41 (fun r45 D45 => ((-2147483648 ≤ r45 ∧ r45 < 2147483648)) ∧ ((r45 = 0 → Q 0 G D45) ∧ (r45 ≠ 0 → C0 l E MX10_number 0 [vR E 107, vI ((458 + (5 * (D 108 401))) + 3), vI 0, vI 8] G D45 (fun r50 D50 => ((-2147483648 ≤ r50 ∧ r50 < 2147483648)) ∧ ((r50 = 0 → Q 0 G D50) ∧ (r50 ≠ 0 → C0 l E MX10_wantWord 0 [vR E 107, vI 13] G D50 (fun r55 D55 => ((-2147483648 ≤ r55 ∧ r55 < 2147483648)) ∧ ((r55 = 0 → Q 0 G D55) ∧ (r55 ≠ 0 → C0 l E MX10_number 0 [vR E 107, vI ((458 + (5 * (D 108 401))) + 4), vI 0, vI 16] G D55 (fun r60 D60 => ((-2147483648 ≤ r60 ∧ r60 < 2147483648)) ∧ ((r60 ≠ 0 → ((-2147483648 ≤ ((D60 108 401) + 1) ∧ ((D60 108 401) + 1) < 2147483648)) ∧ Q 1 G (upd2 D60 108 401 ((D60 108 401) + 1))) ∧ (r60 = 0 → Q 0 G D60))))))))))))) ∧ (r41 = 0 → Q 0 G D41)))))) ∧ (v1 = 1 → ((v1 ≠ 1 → C0 l E MX10_number 0 [vR E 107, vI ((458 + (5 * (D 108 401))) + 1), vI 0, vI 3] G (upd2 D5 108 (458 + (5 * (D 108 401))) v1) (fun r69 D69 => ((-2147483648 ≤ r69 ∧ r69 < 2147483648)) ∧ ((r69 ≠ 0 → C0 l E MX10_wantWord 0 [vR E 107, vI 12] G D69 (fun r73 D73 => ((-2147483648 ≤ r73 ∧ r73 < 2147483648)) ∧ ((r73 = 0 → Q 0 G D73) ∧ (r73 ≠ 0 → C0 l E MX10_number 0 [vR E 107, vI ((458 + (5 * (D 108 401))) + 3), vI 0, vI 8] G D73 (fun r78 D78 => ((-2147483648 ≤ r78 ∧ r78 < 2147483648)) ∧ ((r78 = 0 → Q 0 G D78) ∧ (r78 ≠ 0 → C0 l E MX10_wantWord 0 [vR E 107, vI 13] G D78 (fun r83 D83 => ((-2147483648 ≤ r83 ∧ r83 < 2147483648)) ∧ ((r83 = 0 → Q 0 G D83) ∧ (r83 ≠ 0 → C0 l E MX10_number 0 [vR E 107, vI ((458 + (5 * (D 108 401))) + 4), vI 0, vI 16] G D83 (fun r88 D88 => ((-2147483648 ≤ r88 ∧ r88 < 2147483648)) ∧ ((r88 ≠ 0 → ((-2147483648 ≤ ((D88 108 401) + 1) ∧ ((D88 108 401) + 1) < 2147483648)) ∧ Q 1 G (upd2 D88 108 401 ((D88 108 401) + 1))) ∧ (r88 = 0 → Q 0 G D88))))))))))))) ∧ (r69 = 0 → Q 0 G D69)))) ∧ (v1 = 1 → C0 l E MX10_number 0 [vR E 107, vI ((458 + (5 * (D 108 401))) + 1), vI 0, vI 99] G (upd2 D5 108 (458 + (5 * (D 108 401))) v1) (fun r95 D95 => ((-2147483648 ≤ r95 ∧ r95 < 2147483648)) ∧ ((r95 ≠ 0 → C0 l E MX10_wantWord 0 [vR E 107, vI 12] G D95 (fun r99 D99 => ((-2147483648 ≤ r99 ∧ r99 < 2147483648)) ∧ ((r99 = 0 → Q 0 G D99) ∧ (r99 ≠ 0 → C0 l E MX10_number 0 [vR E 107, vI ((458 + (5 * (D 108 401))) + 3), vI 0, vI 8] G D99 (fun r104 D104 => ((-2147483648 ≤ r104 ∧ r104 < 2147483648)) ∧ ((r104 = 0 → Q 0 G D104) ∧ (r104 ≠ 0 → C0 l E MX10_wantWord 0 [vR E 107, vI 13] G D104 (fun r109 D109 => ((-2147483648 ≤ r109 ∧ r109 < 2147483648)) ∧ ((r109 = 0 → Q 0 G D109) ∧ (r109 ≠ 0 → C0 l E MX10_number 0 [vR E 107, vI ((458 + (5 * (D 108 401))) + 4), vI 0, vI 16] G D109 (fun r114 D114 => ((-2147483648 ≤ r114 ∧ r114 < 2147483648)) ∧ ((r114 ≠ 0 → ((-2147483648 ≤ ((D114 108 401) + 1) ∧ ((D114 108 401) + 1) < 2147483648)) ∧ Q 1 G (upd2 D114 108 401 ((D114 108 401) + 1))) ∧ (r114 = 0 → Q 0 G D114))))))))))))) ∧ (r95 = 0 → Q 0 G D95)))))))) ∧ (v1 ≠ 1 → ((v1 ≠ 2 → C0 l E MX10_wantWord 0 [vR E 107, vI 12] G (upd2 D5 108 (458 + (5 * (D 108 401))) v1) (fun r123 D123 => ((-2147483648 ≤ r123 ∧ r123 < 2147483648)) ∧ ((r123 = 0 → Q 0 G D123) ∧ (r123 ≠ 0 → C0 l E MX10_number 0 [vR E 107, vI ((458 + (5 * (D 108 401))) + 3), vI 0, vI 8] G D123 (fun r128 D128 => ((-2147483648 ≤ r128 ∧ r128 < 2147483648)) ∧ ((r128 = 0 → Q 0 G D128) ∧ (r128 ≠ 0 → C0 l E MX10_wantWord 0 [vR E 107, vI 13] G D128 (fun r133 D133 => ((-2147483648 ≤ r133 ∧ r133 < 2147483648)) ∧ ((r133 = 0 → Q 0 G D133) ∧ (r133 ≠ 0 → C0 l E MX10_number 0 [vR E 107, vI ((458 + (5 * (D 108 401))) + 4), vI 0, vI 16] G D133 (fun r138 D138 => ((-2147483648 ≤ r138 ∧ r138 < 2147483648)) ∧ ((r138 ≠ 0 → ((-2147483648 ≤ ((D138 108 401) + 1) ∧ ((D138 108 401) + 1) < 2147483648)) ∧ Q 1 G (upd2 D138 108 401 ((D138 108 401) + 1))) ∧ (r138 = 0 → Q 0 G D138))))))))))))) ∧ (v1 = 2 → ((v1 ≠ 1 → ((v1 ≠ 1 → C0 l E MX10_number 0 [vR E 107, vI ((458 + (5 * (D 108 401))) + 1), vI 1, vI 3] G (upd2 D5 108 (458 + (5 * (D 108 401))) v1) (fun r148 D148 => ((-2147483648 ≤ r148 ∧ r148 < 2147483648)) ∧ ((r148 ≠ 0 → C0 l E MX10_wantWord 0 [vR E 107, vI 12] G D148 (fun r152 D152 => ((-2147483648 ≤ r152 ∧ r152 < 2147483648)) ∧ ((r152 = 0 → Q 0 G D152) ∧ (r152 ≠ 0 → C0 l E MX10_number 0 [vR E 107, vI ((458 + (5 * (D 108 401))) + 3), vI 0, vI 8] G D152 (fun r157 D157 => ((-2147483648 ≤ r157 ∧ r157 < 2147483648)) ∧ ((r157 = 0 → Q 0 G D157) ∧ (r157 ≠ 0 → C0 l E MX10_wantWord 0 [vR E 107, vI 13] G D157 (fun r162 D162 => ((-2147483648 ≤ r162 ∧ r162 < 2147483648)) ∧ ((r162 = 0 → Q 0 G D162) ∧ (r162 ≠ 0 → C0 l E MX10_number 0 [vR E 107, vI ((458 + (5 * (D 108 401))) + 4), vI 0, vI 16] G D162 (fun r167 D167 => ((-2147483648 ≤ r167 ∧ r167 < 2147483648)) ∧ ((r167 ≠ 0 → ((-2147483648 ≤ ((D167 108 401) + 1) ∧ ((D167 108 401) + 1) < 2147483648)) ∧ Q 1 G (upd2 D167 108 401 ((D167 108 401) + 1))) ∧ (r167 = 0 → Q 0 G D167))))))))))))) ∧ (r148 = 0 → Q 0 G D148)))) ∧ (v1 = 1 → C0 l E MX10_number 0 [vR E 107, vI ((458 + (5 * (D 108 401))) + 1), vI 1, vI 99] G (upd2 D5 108 (458 + (5 * (D 108 401))) v1) (fun r174 D174 => ((-2147483648 ≤ r174 ∧ r174 < 2147483648)) ∧ ((r174 ≠ 0 → C0 l E MX10_wantWord 0 [vR E 107, vI 12] G D174 (fun r178 D178 => ((-2147483648 ≤ r178 ∧ r178 < 2147483648)) ∧ ((r178 = 0 → Q 0 G D178) ∧ (r178 ≠ 0 → C0 l E MX10_number 0 [vR E 107, vI ((458 + (5 * (D 108 401))) + 3), vI 0, vI 8] G D178 (fun r183 D183 => ((-2147483648 ≤ r183 ∧ r183 < 2147483648)) ∧ ((r183 = 0 → Q 0 G D183) ∧ (r183 ≠ 0 → C0 l E MX10_wantWord 0 [vR E 107, vI 13] G D183 (fun r188 D188 => ((-2147483648 ≤ r188 ∧ r188 < 2147483648)) ∧ ((r188 = 0 → Q 0 G D188) ∧ (r188 ≠ 0 → C0 l E MX10_number 0 [vR E 107, vI ((458 + (5 * (D 108 401))) + 4), vI 0, vI 16] G D188 (fun r193 D193 => ((-2147483648 ≤ r193 ∧ r193 < 2147483648)) ∧ ((r193 ≠ 0 → ((-2147483648 ≤ ((D193 108 401) + 1) ∧ ((D193 108 401) + 1) < 2147483648)) ∧ Q 1 G (upd2 D193 108 401 ((D193 108 401) + 1))) ∧ (r193 = 0 → Q 0 G D193))))))))))))) ∧ (r174 = 0 → Q 0 G D174)))))) ∧ (v1 = 1 → ((v1 ≠ 1 → C0 l E MX10_number 0 [vR E 107, vI ((458 + (5 * (D 108 401))) + 1), vI 0, vI 3] G (upd2 D5 108 (458 + (5 * (D 108 401))) v1) (fun r202 D202 => ((-2147483648 ≤ r202 ∧ r202 < 2147483648)) ∧ ((r202 ≠ 0 → C0 l E MX10_wantWord 0 [vR E 107, vI 12] G D202 (fun r206 D206 => ((-2147483648 ≤ r206 ∧ r206 < 2147483648)) ∧ ((r206 = 0 → Q 0 G D206) ∧ (r206 ≠ 0 → C0 l E MX10_number 0 [vR E 107, vI ((458 + (5 * (D 108 401))) + 3), vI 0, vI 8] G D206 (fun r211 D211 => ((-2147483648 ≤ r211 ∧ r211 < 2147483648)) ∧ ((r211 = 0 → Q 0 G D211) ∧ (r211 ≠ 0 → C0 l E MX10_wantWord 0 [vR E 107, vI 13] G D211 (fun r216 D216 => ((-2147483648 ≤ r216 ∧ r216 < 2147483648)) ∧ ((r216 = 0 → Q 0 G D216) ∧ (r216 ≠ 0 → C0 l E MX10_number 0 [vR E 107, vI ((458 + (5 * (D 108 401))) + 4), vI 0, vI 16] G D216 (fun r221 D221 => ((-2147483648 ≤ r221 ∧ r221 < 2147483648)) ∧ ((r221 ≠ 0 → ((-2147483648 ≤ ((D221 108 401) + 1) ∧ ((D221 108 401) + 1) < 2147483648)) ∧ Q 1 G (upd2 D221 108 401 ((D221 108 401) + 1))) ∧ (r221 = 0 → Q 0 G D221))))))))))))) ∧ (r202 = 0 → Q 0 G D202)))) ∧ (v1 = 1 → C0 l E MX10_number 0 [vR E 107, vI ((458 + (5 * (D 108 401))) + 1), vI 0, vI 99] G (upd2 D5 108 (458 + (5 * (D 108 401))) v1) (fun r228 D228 => ((-2147483648 ≤ r228 ∧ r228 < 2147483648)) ∧ ((r228 ≠ 0 → C0 l E MX10_wantWord 0 [vR E 107, vI 12] G D228 (fun r232 D232 => ((-2147483648 ≤ r232 ∧ r232 < 2147483648)) ∧ ((r232 = 0 → Q 0 G D232) ∧ (r232 ≠ 0 → C0 l E MX10_number 0 [vR E 107, vI ((458 + (5 * (D 108 401))) + 3), vI 0, vI 8] G D232 (fun r237 D237 => ((-2147483648 ≤ r237 ∧ r237 < 2147483648)) ∧ ((r237 = 0 → Q 0 G D237) ∧ (r237 ≠ 0 → C0 l E MX10_wantWord 0 [vR E 107, vI 13] G D237 (fun r242 D242 => ((-2147483648 ≤ r242 ∧ r242 < 2147483648)) ∧ ((r242 = 0 → Q 0 G D242) ∧ (r242 ≠ 0 → C0 l E MX10_number 0 [vR E 107, vI ((458 + (5 * (D 108 401))) + 4), vI 0, vI 16] G D242 (fun r247 D247 => ((-2147483648 ≤ r247 ∧ r247 < 2147483648)) ∧ ((r247 ≠ 0 → ((-2147483648 ≤ ((D247 108 401) + 1) ∧ ((D247 108 401) + 1) < 2147483648)) ∧ Q 1 G (upd2 D247 108 401 ((D247 108 401) + 1))) ∧ (r247 = 0 → Q 0 G D247))))))))))))) ∧ (r228 = 0 → Q 0 G D228)))))))))))) ∧ (v1 = 0 → C0 l E MX10_number 0 [vR E 107, vI ((458 + (5 * (D 108 401))) + 1), vI 0, vI 99] G (upd2 D5 108 (458 + (5 * (D 108 401))) v1) (fun r254 D254 => ((-2147483648 ≤ r254 ∧ r254 < 2147483648)) ∧ ((r254 = 0 → Q 0 G D254) ∧ (r254 ≠ 0 → C0 l E MX10_wantWord 0 [vR E 107, vI 9] G D254 (fun r259 D259 => ((-2147483648 ≤ r259 ∧ r259 < 2147483648)) ∧ ((r259 = 0 → Q 0 G D259) ∧ (r259 ≠ 0 → ((0 ≤ ((458 + (5 * (D 108 401))) + 1) ∧ ((458 + (5 * (D 108 401))) + 1) < 500)) ∧ C0 l E MX10_number 0 [vR E 107, vI ((458 + (5 * (D 108 401))) + 2), vI (D259 108 ((458 + (5 * (D 108 401))) + 1)), vI 99] G D259 (fun r264 D264 => ((-2147483648 ≤ r264 ∧ r264 < 2147483648)) ∧ ((r264 ≠ 0 → ((v1 = 1 → ((v1 ≠ 1 → ((v1 ≠ 1 → C0 l E MX10_number 0 [vR E 107, vI ((458 + (5 * (D 108 401))) + 1), vI 1, vI 3] G D264 (fun r274 D274 => ((-2147483648 ≤ r274 ∧ r274 < 2147483648)) ∧ ((r274 ≠ 0 → C0 l E MX10_wantWord 0 [vR E 107, vI 12] G D274 (fun r278 D278 => ((-2147483648 ≤ r278 ∧ r278 < 2147483648)) ∧ ((r278 = 0 → Q 0 G D278) ∧ (r278 ≠ 0 → C0 l E MX10_number 0 [vR E 107, vI ((458 + (5 * (D 108 401))) + 3), vI 0, vI 8] G D278 (fun r283 D283 => ((-2147483648 ≤ r283 ∧ r283 < 2147483648)) ∧ ((r283 = 0 → Q 0 G D283) ∧ (r283 ≠ 0 → C0 l E MX10_wantWord 0 [vR E 107, vI 13] G D283 (fun r288 D288 => ((-2147483648 ≤ r288 ∧ r288 < 2147483648)) ∧ ((r288 = 0 → Q 0 G D288) ∧ (r288 ≠ 0 → C0 l E MX10_number 0 [vR E 107, vI ((458 + (5 * (D 108 401))) + 4), vI 0, vI 16] G D288 (fun r293 D293 => ((-2147483648 ≤ r293 ∧ r293 < 2147483648)) ∧ ((r293 ≠ 0 → ((-2147483648 ≤ ((D293 108 401) + 1) ∧ ((D293 108 401) + 1) < 2147483648)) ∧ Q 1 G (upd2 D293 108 401 ((D293 108 401) + 1))) ∧ (r293 = 0 → Q 0 G D293))))))))))))) ∧ (r274 = 0 → Q 0 G D274)))) ∧ (v1 = 1 → C0 l E MX10_number 0 [vR E 107, vI ((458 + (5 * (D 108 401))) + 1), vI 1, vI 99] G D264 (fun r300 D300 => ((-2147483648 ≤ r300 ∧ r300 < 2147483648)) ∧ ((r300 ≠ 0 → C0 l E MX10_wantWord 0 [vR E 107, vI 12] G D300 (fun r304 D304 => ((-2147483648 ≤ r304 ∧ r304 < 2147483648)) ∧ ((r304 = 0 → Q 0 G D304) ∧ (r304 ≠ 0 → C0 l E MX10_number 0 [vR E 107, vI ((458 + (5 * (D 108 401))) + 3), vI 0, vI 8] G D304 (fun r309 D309 => ((-2147483648 ≤ r309 ∧ r309 < 2147483648)) ∧ ((r309 = 0 → Q 0 G D309) ∧ (r309 ≠ 0 → C0 l E MX10_wantWord 0 [vR E 107, vI 13] G D309 (fun r314 D314 => ((-2147483648 ≤ r314 ∧ r314 < 2147483648)) ∧ ((r314 = 0 → Q 0 G D314) ∧ (r314 ≠ 0 → C0 l E MX10_number 0 [vR E 107, vI ((458 + (5 * (D 108 401))) + 4), vI 0, vI 16] G D314 (fun r319 D319 => ((-2147483648 ≤ r319 ∧ r319 < 2147483648)) ∧ ((r319 ≠ 0 → ((-2147483648 ≤ ((D319 108 401) + 1) ∧ ((D319 108 401) + 1) < 2147483648)) ∧ Q 1 G (upd2 D319 108 401 ((D319 108 401) + 1))) ∧ (r319 = 0 → Q 0 G D319))))))))))))) ∧ (r300 = 0 → Q 0 G D300)))))) ∧ (v1 = 1 → ((v1 ≠ 1 → C0 l E MX10_number 0 [vR E 107, vI ((458 + (5 * (D 108 401))) + 1), vI 0, vI 3] G D264 (fun r328 D328 => ((-2147483648 ≤ r328 ∧ r328 < 2147483648)) ∧ ((r328 ≠ 0 → C0 l E MX10_wantWord 0 [vR E 107, vI 12] G D328 (fun r332 D332 => ((-2147483648 ≤ r332 ∧ r332 < 2147483648)) ∧ ((r332 = 0 → Q 0 G D332) ∧ (r332 ≠ 0 → C0 l E MX10_number 0 [vR E 107, vI ((458 + (5 * (D 108 401))) + 3), vI 0, vI 8] G D332 (fun r337 D337 => ((-2147483648 ≤ r337 ∧ r337 < 2147483648)) ∧ ((r337 = 0 → Q 0 G D337) ∧ (r337 ≠ 0 → C0 l E MX10_wantWord 0 [vR E 107, vI 13] G D337 (fun r342 D342 => ((-2147483648 ≤ r342 ∧ r342 < 2147483648)) ∧ ((r342 = 0 → Q 0 G D342) ∧ (r342 ≠ 0 → C0 l E MX10_number 0 [vR E 107, vI ((458 + (5 * (D 108 401))) + 4), vI 0, vI 16] G D342 (fun r347 D347 => ((-2147483648 ≤ r347 ∧ r347 < 2147483648)) ∧ ((r347 ≠ 0 → ((-2147483648 ≤ ((D347 108 401) + 1) ∧ ((D347 108 401) + 1) < 2147483648)) ∧ Q 1 G (upd2 D347 108 401 ((D347 108 401) + 1))) ∧ (r347 = 0 → Q 0 G D347))))))))))))) ∧ (r328 = 0 → Q 0 G D328)))) ∧ (v1 = 1 → C0 l E MX10_number 0 [vR E 107, vI ((458 + (5 * (D 108 401))) + 1), vI 0, vI 99] G D264 (fun r354 D354 => ((-2147483648 ≤ r354 ∧ r354 < 2147483648)) ∧ ((r354 ≠ 0 → C0 l E MX10_wantWord 0 [vR E 107, vI 12] G D354 (fun r358 D358 => ((-2147483648 ≤ r358 ∧ r358 < 2147483648)) ∧ ((r358 = 0 → Q 0 G D358) ∧ (r358 ≠ 0 → C0 l E MX10_number 0 [vR E 107, vI ((458 + (5 * (D 108 401))) + 3), vI 0, vI 8] G D358 (fun r363 D363 => ((-2147483648 ≤ r363 ∧ r363 < 2147483648)) ∧ ((r363 = 0 → Q 0 G D363) ∧ (r363 ≠ 0 → C0 l E MX10_wantWord 0 [vR E 107, vI 13] G D363 (fun r368 D368 => ((-2147483648 ≤ r368 ∧ r368 < 2147483648)) ∧ ((r368 = 0 → Q 0 G D368) ∧ (r368 ≠ 0 → C0 l E MX10_number 0 [vR E 107, vI ((458 + (5 * (D 108 401))) + 4), vI 0, vI 16] G D368 (fun r373 D373 => ((-2147483648 ≤ r373 ∧ r373 < 2147483648)) ∧ ((r373 ≠ 0 → ((-2147483648 ≤ ((D373 108 401) + 1) ∧ ((D373 108 401) + 1) < 2147483648)) ∧ Q 1 G (upd2 D373 108 401 ((D373 108 401) + 1))) ∧ (r373 = 0 → Q 0 G D373))))))))))))) ∧ (r354 = 0 → Q 0 G D354)))))))) ∧ (v1 ≠ 1 → ((v1 ≠ 2 → C0 l E MX10_wantWord 0 [vR E 107, vI 12] G D264 (fun r382 D382 => ((-2147483648 ≤ r382 ∧ r382 < 2147483648)) ∧ ((r382 = 0 → Q 0 G D382) ∧ (r382 ≠ 0 → C0 l E MX10_number 0 [vR E 107, vI ((458 + (5 * (D 108 401))) + 3), vI 0, vI 8] G D382 (fun r387 D387 => ((-2147483648 ≤ r387 ∧ r387 < 2147483648)) ∧ ((r387 = 0 → Q 0 G D387) ∧ (r387 ≠ 0 → C0 l E MX10_wantWord 0 [vR E 107, vI 13] G D387 (fun r392 D392 => ((-2147483648 ≤ r392 ∧ r392 < 2147483648)) ∧ ((r392 = 0 → Q 0 G D392) ∧ (r392 ≠ 0 → C0 l E MX10_number 0 [vR E 107, vI ((458 + (5 * (D 108 401))) + 4), vI 0, vI 16] G D392 (fun r397 D397 => ((-2147483648 ≤ r397 ∧ r397 < 2147483648)) ∧ ((r397 ≠ 0 → ((-2147483648 ≤ ((D397 108 401) + 1) ∧ ((D397 108 401) + 1) < 2147483648)) ∧ Q 1 G (upd2 D397 108 401 ((D397 108 401) + 1))) ∧ (r397 = 0 → Q 0 G D397))))))))))))) ∧ (v1 = 2 → ((v1 ≠ 1 → ((v1 ≠ 1 → C0 l E MX10_number 0 [vR E 107, vI ((458 + (5 * (D 108 401))) + 1), vI 1, vI 3] G D264 (fun r407 D407 => ((-2147483648 ≤ r407 ∧ r407 < 2147483648)) ∧ ((r407 ≠ 0 → C0 l E MX10_wantWord 0 [vR E 107, vI 12] G D407 (fun r411 D411 => ((-2147483648 ≤ r411 ∧ r411 < 2147483648)) ∧ ((r411 = 0 → Q 0 G D411) ∧ (r411 ≠ 0 → C0 l E MX10_number 0 [vR E 107, vI ((458 + (5 * (D 108 401))) + 3), vI 0, vI 8] G D411 (fun r416 D416 => ((-2147483648 ≤ r416 ∧ r416 < 2147483648)) ∧ ((r416 = 0 → Q 0 G D416) ∧ (r416 ≠ 0 → C0 l E MX10_wantWord 0 [vR E 107, vI 13] G D416 (fun r421 D421 => ((-2147483648 ≤ r421 ∧ r421 < 2147483648)) ∧ ((r421 = 0 → Q 0 G D421) ∧ (r421 ≠ 0 → C0 l E MX10_number 0 [vR E 107, vI ((458 + (5 * (D 108 401))) + 4), vI 0, vI 16] G D421 (fun r426 D426 => ((-2147483648 ≤ r426 ∧ r426 < 2147483648)) ∧ ((r426 ≠ 0 → ((-2147483648 ≤ ((D426 108 401) + 1) ∧ ((D426 108 401) + 1) < 2147483648)) ∧ Q 1 G (upd2 D426 108 401 ((D426 108 401) + 1))) ∧ (r426 = 0 → Q 0 G D426))))))))))))) ∧ (r407 = 0 → Q 0 G D407)))) ∧ (v1 = 1 → C0 l E MX10_number 0 [vR E 107, vI ((458 + (5 * (D 108 401))) + 1), vI 1, vI 99] G D264 (fun r433 D433 => ((-2147483648 ≤ r433 ∧ r433 < 2147483648)) ∧ ((r433 ≠ 0 → C0 l E MX10_wantWord 0 [vR E 107, vI 12] G D433 (fun r437 D437 => ((-2147483648 ≤ r437 ∧ r437 < 2147483648)) ∧ ((r437 = 0 → Q 0 G D437) ∧ (r437 ≠ 0 → C0 l E MX10_number 0 [vR E 107, vI ((458 + (5 * (D 108 401))) + 3), vI 0, vI 8] G D437 (fun r442 D442 => ((-2147483648 ≤ r442 ∧ r442 < 2147483648)) ∧ ((r442 = 0 → Q 0 G D442) ∧ (r442 ≠ 0 → C0 l E MX10_wantWord 0 [vR E 107, vI 13] G D442 (fun r447 D447 => ((-2147483648 ≤ r447 ∧ r447 < 2147483648)) ∧ ((r447 = 0 → Q 0 G D447) ∧ (r447 ≠ 0 → C0 l E MX10_number 0 [vR E 107, vI ((458 + (5 * (D 108 401))) + 4), vI 0, vI 16] G D447 (fun r452 D452 => ((-2147483648 ≤ r452 ∧ r452 < 2147483648)) ∧ ((r452 ≠ 0 → ((-2147483648 ≤ ((D452 108 401) + 1) ∧ ((D452 108 401) + 1) < 2147483648)) ∧ Q 1 G (upd2 D452 108 401 ((D452 108 401) + 1))) ∧ (r452 = 0 → Q 0 G D452))))))))))))) ∧ (r433 = 0 → Q 0 G D433)))))) ∧ (v1 = 1 → ((v1 ≠ 1 → C0 l E MX10_number 0 [vR E 107, vI ((458 + (5 * (D 108 401))) + 1), vI 0, vI 3] G D264 (fun r461 D461 => ((-2147483648 ≤ r461 ∧ r461 < 2147483648)) ∧ ((r461 ≠ 0 → C0 l E MX10_wantWord 0 [vR E 107, vI 12] G D461 (fun r465 D465 => ((-2147483648 ≤ r465 ∧ r465 < 2147483648)) ∧ ((r465 = 0 → Q 0 G D465) ∧ (r465 ≠ 0 → C0 l E MX10_number 0 [vR E 107, vI ((458 + (5 * (D 108 401))) + 3), vI 0, vI 8] G D465 (fun r470 D470 => ((-2147483648 ≤ r470 ∧ r470 < 2147483648)) ∧ ((r470 = 0 → Q 0 G D470) ∧ (r470 ≠ 0 → C0 l E MX10_wantWord 0 [vR E 107, vI 13] G D470 (fun r475 D475 => ((-2147483648 ≤ r475 ∧ r475 < 2147483648)) ∧ ((r475 = 0 → Q 0 G D475) ∧ (r475 ≠ 0 → C0 l E MX10_number 0 [vR E 107, vI ((458 + (5 * (D 108 401))) + 4), vI 0, vI 16] G D475 (fun r480 D480 => ((-2147483648 ≤ r480 ∧ r480 < 2147483648)) ∧ ((r480 ≠ 0 → ((-2147483648 ≤ ((D480 108 401) + 1) ∧ ((D480 108 401) + 1) < 2147483648)) ∧ Q 1 G (upd2 D480 108 401 ((D480 108 401) + 1))) ∧ (r480 = 0 → Q 0 G D480))))))))))))) ∧ (r461 = 0 → Q 0 G D461)))) ∧ (v1 = 1 → C0 l E MX10_number 0 [vR E 107, vI ((458 + (5 * (D 108 401))) + 1), vI 0, vI 99] G D264 (fun r487 D487 => ((-2147483648 ≤ r487 ∧ r487 < 2147483648)) ∧ ((r487 ≠ 0 → C0 l E MX10_wantWord 0 [vR E 107, vI 12] G D487 (fun r491 D491 => ((-2147483648 ≤ r491 ∧ r491 < 2147483648)) ∧ ((r491 = 0 → Q 0 G D491) ∧ (r491 ≠ 0 → C0 l E MX10_number 0 [vR E 107, vI ((458 + (5 * (D 108 401))) + 3), vI 0, vI 8] G D491 (fun r496 D496 => ((-2147483648 ≤ r496 ∧ r496 < 2147483648)) ∧ ((r496 = 0 → Q 0 G D496) ∧ (r496 ≠ 0 → C0 l E MX10_wantWord 0 [vR E 107, vI 13] G D496 (fun r501 D501 => ((-2147483648 ≤ r501 ∧ r501 < 2147483648)) ∧ ((r501 = 0 → Q 0 G D501) ∧ (r501 ≠ 0 → C0 l E MX10_number 0 [vR E 107, vI ((458 + (5 * (D 108 401))) + 4), vI 0, vI 16] G D501 (fun r506 D506 => ((-2147483648 ≤ r506 ∧ r506 < 2147483648)) ∧ ((r506 ≠ 0 → ((-2147483648 ≤ ((D506 108 401) + 1) ∧ ((D506 108 401) + 1) < 2147483648)) ∧ Q 1 G (upd2 D506 108 401 ((D506 108 401) + 1))) ∧ (r506 = 0 → Q 0 G D506))))))))))))) ∧ (r487 = 0 → Q 0 G D487)))))))))))) ∧ (r264 = 0 → Q 0 G D264))))))))))))) ∧ ((D 108 401) = 6 → C0 l E MX10_fails 0 [vR E 107, vI 5] G D (fun r514 D514 => ((r514 = 0 ∨ r514 = 1)) ∧ Q r514 G D514)))) : Ct l E MX10_aHarm 0 0 0 [vR E 107, vI v1] G D Q := by
  refine Ct.of (by decide) (Nat.le_of_ble_eq_true rfl) ?_
  show KX10_aHarm l E Q 0 [(0, vR E 107), (1, vI v1)] G D
  refine go_aload_n 0 dX10_aHarm_0 rfl rfl ?_
  refine go_getR 0 f_X10_7 rfl (hL.1 107 _ rfl) (hL.2.1 107 0 _ rfl (by decide)) dX10_aHarm_1 ?_
  refine go_sipush dX10_aHarm_4 (by decide) ?_
  refine go_iaload (hL.1 108 _ rfl) (b := 500) rfl (by decide) (by decide) dX10_aHarm_7 ?_
  refine go_istore_n [1, 2, 0] (L' := [(0, vR E 107), (1, vI v1), (2, vI (D 108 401))]) dX10_aHarm_8 rfl (by decide) rfl ?_
  refine go_sipush dX10_aHarm_9 (by decide) ?_
  refine go_iconst dX10_aHarm_12 ?_
  refine go_iload_n 2 dX10_aHarm_13 rfl rfl ?_
  refine go_imul dX10_aHarm_14 ?_
  refine go_iadd dX10_aHarm_15 ?_
  refine go_istore_n [1, 2, 3, 0] (L' := [(0, vR E 107), (1, vI v1), (2, vI (D 108 401)), (3, vI (458 + (5 * (D 108 401))))]) dX10_aHarm_16 rfl (by decide) rfl ?_
  refine go_iload_n 2 dX10_aHarm_17 rfl rfl ?_
  refine go_bipush dX10_aHarm_18 (by decide) ?_
  refine go_rngI (c := 108) (i := 401) (hL.1 108 _ rfl) rfl (fun (q2 : -2147483648 ≤ (D 108 401) ∧ (D 108 401) < 2147483648) => ?_)
  refine go_icmp_ne 29 dX10_aHarm_20 (by decide) q2 (by decide) (fun c3 => ?_) (fun c3 => ?_)
  · have h := h.1 c3
    refine go_aload_n 0 dX10_aHarm_29 rfl rfl ?_
    refine go_vV (M := MX10_ahead) [] [] mv_X10_163 (hL.1 107 _ rfl) rfl (by decide) ⟨Nat.le_of_ble_eq_true rfl, Nat.le_of_ble_eq_true rfl⟩ ⟨Nat.le_refl _, Nat.le_refl _⟩ rfl rfl (Nat.le_of_ble_eq_true rfl) dX10_aHarm_30 h (fun r5 D5 h => ?_)
    obtain ⟨s6, h⟩ := h
    refine go_aload_n 0 dX10_aHarm_33 rfl rfl ?_
    refine go_getR 0 f_X10_7 rfl (hL.1 107 _ rfl) (hL.2.1 107 0 _ rfl (by decide)) dX10_aHarm_34 ?_
    refine go_iload_n 3 dX10_aHarm_37 rfl rfl ?_
    refine go_iload_n 1 dX10_aHarm_38 rfl rfl ?_
    refine go_iastore (hL.1 108 _ rfl) (b := 500) rfl (by decide) s6.1 s6.2 dX10_aHarm_39 ?_
    refine go_iload_n 1 dX10_aHarm_40 rfl rfl ?_
    refine go_if_ne 88 dX10_aHarm_41 (by decide) s6.2 (fun c7 => ?_) (fun c7 => ?_)
    · have h := h.1 c7
      refine go_iload_n 1 dX10_aHarm_88 rfl rfl ?_
      refine go_iconst dX10_aHarm_89 ?_
      refine go_icmp_eq 98 dX10_aHarm_90 (by decide) s6.2 (by decide) (fun c9 => ?_) (fun c9 => ?_)
      · have h := h.1 c9
        refine go_aload_n 0 dX10_aHarm_98 rfl rfl ?_
        refine go_iload_n 3 dX10_aHarm_99 rfl rfl ?_
        refine go_iconst dX10_aHarm_100 ?_
        refine go_iadd dX10_aHarm_101 ?_
        refine go_iload_n 1 dX10_aHarm_102 rfl rfl ?_
        refine go_iconst dX10_aHarm_103 ?_
        refine go_icmp_ne 111 dX10_aHarm_104 (by decide) s6.2 (by decide) (fun c11 => ?_) (fun c11 => ?_)
        · have h := h.1 c11
          refine go_iconst dX10_aHarm_111 ?_
          refine go_iload_n 1 dX10_aHarm_112 rfl rfl ?_
          refine go_iconst dX10_aHarm_113 ?_
          refine go_icmp_ne 122 dX10_aHarm_114 (by decide) s6.2 (by decide) (fun c13 => ?_) (fun c13 => ?_)
          · have h := h.1 c13
            refine go_iconst dX10_aHarm_122 ?_
            refine go_vI (M := MX10_number) [vI ((458 + (5 * (D 108 401))) + 1), vI 1, vI 3] [] mv_X10_181 (hL.1 107 _ rfl) rfl (by decide) ⟨Nat.le_of_ble_eq_true rfl, Nat.le_of_ble_eq_true rfl⟩ ⟨Nat.le_refl _, Nat.le_refl _⟩ rfl rfl (Nat.le_of_ble_eq_true rfl) dX10_aHarm_123 h (fun r15 D15 h => ?_)
            obtain ⟨s16, h⟩ := h
            refine go_if_ne 131 dX10_aHarm_126 (by decide) s16 (fun c17 => ?_) (fun c17 => ?_)
            · have h := h.1 c17
              refine go_aload_n 0 dX10_aHarm_131 rfl rfl ?_
              refine go_bipush dX10_aHarm_132 (by decide) ?_
              refine go_vI (M := MX10_wantWord) [vI 12] [] mv_X10_178 (hL.1 107 _ rfl) rfl (by decide) ⟨Nat.le_of_ble_eq_true rfl, Nat.le_of_ble_eq_true rfl⟩ ⟨Nat.le_refl _, Nat.le_refl _⟩ rfl rfl (Nat.le_of_ble_eq_true rfl) dX10_aHarm_134 h (fun r19 D19 h => ?_)
              obtain ⟨s20, h⟩ := h
              refine go_if_eq 175 dX10_aHarm_137 (by decide) s20 (fun c21 => ?_) (fun c21 => ?_)
              · have h := h.1 c21
                refine go_iconst dX10_aHarm_175 ?_
                exact go_zreturn (Nat.le_refl _) (Nat.le_refl _) rfl (by decide) dX10_aHarm_176 h
              · have h := h.2 c21
                refine go_aload_n 0 dX10_aHarm_140 rfl rfl ?_
                refine go_iload_n 3 dX10_aHarm_141 rfl rfl ?_
                refine go_iconst dX10_aHarm_142 ?_
                refine go_iadd dX10_aHarm_143 ?_
                refine go_iconst dX10_aHarm_144 ?_
                refine go_bipush dX10_aHarm_145 (by decide) ?_
                refine go_vI (M := MX10_number) [vI ((458 + (5 * (D 108 401))) + 3), vI 0, vI 8] [] mv_X10_181 (hL.1 107 _ rfl) rfl (by decide) ⟨Nat.le_of_ble_eq_true rfl, Nat.le_of_ble_eq_true rfl⟩ ⟨Nat.le_refl _, Nat.le_refl _⟩ rfl rfl (Nat.le_of_ble_eq_true rfl) dX10_aHarm_147 h (fun r24 D24 h => ?_)
                obtain ⟨s25, h⟩ := h
                refine go_if_eq 175 dX10_aHarm_150 (by decide) s25 (fun c26 => ?_) (fun c26 => ?_)
                · have h := h.1 c26
                  refine go_iconst dX10_aHarm_175 ?_
                  exact go_zreturn (Nat.le_refl _) (Nat.le_refl _) rfl (by decide) dX10_aHarm_176 h
                · have h := h.2 c26
                  refine go_aload_n 0 dX10_aHarm_153 rfl rfl ?_
                  refine go_bipush dX10_aHarm_154 (by decide) ?_
                  refine go_vI (M := MX10_wantWord) [vI 13] [] mv_X10_178 (hL.1 107 _ rfl) rfl (by decide) ⟨Nat.le_of_ble_eq_true rfl, Nat.le_of_ble_eq_true rfl⟩ ⟨Nat.le_refl _, Nat.le_refl _⟩ rfl rfl (Nat.le_of_ble_eq_true rfl) dX10_aHarm_156 h (fun r29 D29 h => ?_)
                  obtain ⟨s30, h⟩ := h
                  refine go_if_eq 175 dX10_aHarm_159 (by decide) s30 (fun c31 => ?_) (fun c31 => ?_)
                  · have h := h.1 c31
                    refine go_iconst dX10_aHarm_175 ?_
                    exact go_zreturn (Nat.le_refl _) (Nat.le_refl _) rfl (by decide) dX10_aHarm_176 h
                  · have h := h.2 c31
                    refine go_aload_n 0 dX10_aHarm_162 rfl rfl ?_
                    refine go_iload_n 3 dX10_aHarm_163 rfl rfl ?_
                    refine go_iconst dX10_aHarm_164 ?_
                    refine go_iadd dX10_aHarm_165 ?_
                    refine go_iconst dX10_aHarm_166 ?_
                    refine go_bipush dX10_aHarm_167 (by decide) ?_
                    refine go_vI (M := MX10_number) [vI ((458 + (5 * (D 108 401))) + 4), vI 0, vI 16] [] mv_X10_181 (hL.1 107 _ rfl) rfl (by decide) ⟨Nat.le_of_ble_eq_true rfl, Nat.le_of_ble_eq_true rfl⟩ ⟨Nat.le_refl _, Nat.le_refl _⟩ rfl rfl (Nat.le_of_ble_eq_true rfl) dX10_aHarm_169 h (fun r34 D34 h => ?_)
                    obtain ⟨s35, h⟩ := h
                    refine go_if_ne 177 dX10_aHarm_172 (by decide) s35 (fun c36 => ?_) (fun c36 => ?_)
                    · have h := h.1 c36
                      obtain ⟨s37, h⟩ := h
                      refine go_aload_n 0 dX10_aHarm_177 rfl rfl ?_
                      refine go_getR 0 f_X10_7 rfl (hL.1 107 _ rfl) (hL.2.1 107 0 _ rfl (by decide)) dX10_aHarm_178 ?_
                      refine go_sipush dX10_aHarm_181 (by decide) ?_
                      refine go_dup2 rfl rfl dX10_aHarm_184 ?_
                      refine go_iaload (hL.1 108 _ rfl) (b := 500) rfl (by decide) (by decide) dX10_aHarm_185 ?_
                      refine go_iconst dX10_aHarm_186 ?_
                      refine go_iadd dX10_aHarm_187 ?_
                      refine go_iastore (hL.1 108 _ rfl) (b := 500) rfl (by decide) (by decide) s37 dX10_aHarm_188 ?_
                      refine go_iconst dX10_aHarm_189 ?_
                      exact go_zreturn (Nat.le_refl _) (Nat.le_refl _) rfl (by decide) dX10_aHarm_190 h
                    · have h := h.2 c36
                      refine go_iconst dX10_aHarm_175 ?_
                      exact go_zreturn (Nat.le_refl _) (Nat.le_refl _) rfl (by decide) dX10_aHarm_176 h
            · have h := h.2 c17
              refine go_iconst dX10_aHarm_129 ?_
              exact go_zreturn (Nat.le_refl _) (Nat.le_refl _) rfl (by decide) dX10_aHarm_130 h
          · have h := h.2 c13
            refine go_bipush dX10_aHarm_117 (by decide) ?_
            refine go_goto 123 dX10_aHarm_119 (by decide) ?_
            refine go_vI (M := MX10_number) [vI ((458 + (5 * (D 108 401))) + 1), vI 1, vI 99] [] mv_X10_181 (hL.1 107 _ rfl) rfl (by decide) ⟨Nat.le_of_ble_eq_true rfl, Nat.le_of_ble_eq_true rfl⟩ ⟨Nat.le_refl _, Nat.le_refl _⟩ rfl rfl (Nat.le_of_ble_eq_true rfl) dX10_aHarm_123 h (fun r41 D41 h => ?_)
            obtain ⟨s42, h⟩ := h
            refine go_if_ne 131 dX10_aHarm_126 (by decide) s42 (fun c43 => ?_) (fun c43 => ?_)
            · have h := h.1 c43
              refine go_aload_n 0 dX10_aHarm_131 rfl rfl ?_
              refine go_bipush dX10_aHarm_132 (by decide) ?_
              refine go_vI (M := MX10_wantWord) [vI 12] [] mv_X10_178 (hL.1 107 _ rfl) rfl (by decide) ⟨Nat.le_of_ble_eq_true rfl, Nat.le_of_ble_eq_true rfl⟩ ⟨Nat.le_refl _, Nat.le_refl _⟩ rfl rfl (Nat.le_of_ble_eq_true rfl) dX10_aHarm_134 h (fun r45 D45 h => ?_)
              obtain ⟨s46, h⟩ := h
              refine go_if_eq 175 dX10_aHarm_137 (by decide) s46 (fun c47 => ?_) (fun c47 => ?_)
              · have h := h.1 c47
                refine go_iconst dX10_aHarm_175 ?_
                exact go_zreturn (Nat.le_refl _) (Nat.le_refl _) rfl (by decide) dX10_aHarm_176 h
              · have h := h.2 c47
                refine go_aload_n 0 dX10_aHarm_140 rfl rfl ?_
                refine go_iload_n 3 dX10_aHarm_141 rfl rfl ?_
                refine go_iconst dX10_aHarm_142 ?_
                refine go_iadd dX10_aHarm_143 ?_
                refine go_iconst dX10_aHarm_144 ?_
                refine go_bipush dX10_aHarm_145 (by decide) ?_
                refine go_vI (M := MX10_number) [vI ((458 + (5 * (D 108 401))) + 3), vI 0, vI 8] [] mv_X10_181 (hL.1 107 _ rfl) rfl (by decide) ⟨Nat.le_of_ble_eq_true rfl, Nat.le_of_ble_eq_true rfl⟩ ⟨Nat.le_refl _, Nat.le_refl _⟩ rfl rfl (Nat.le_of_ble_eq_true rfl) dX10_aHarm_147 h (fun r50 D50 h => ?_)
                obtain ⟨s51, h⟩ := h
                refine go_if_eq 175 dX10_aHarm_150 (by decide) s51 (fun c52 => ?_) (fun c52 => ?_)
                · have h := h.1 c52
                  refine go_iconst dX10_aHarm_175 ?_
                  exact go_zreturn (Nat.le_refl _) (Nat.le_refl _) rfl (by decide) dX10_aHarm_176 h
                · have h := h.2 c52
                  refine go_aload_n 0 dX10_aHarm_153 rfl rfl ?_
                  refine go_bipush dX10_aHarm_154 (by decide) ?_
                  refine go_vI (M := MX10_wantWord) [vI 13] [] mv_X10_178 (hL.1 107 _ rfl) rfl (by decide) ⟨Nat.le_of_ble_eq_true rfl, Nat.le_of_ble_eq_true rfl⟩ ⟨Nat.le_refl _, Nat.le_refl _⟩ rfl rfl (Nat.le_of_ble_eq_true rfl) dX10_aHarm_156 h (fun r55 D55 h => ?_)
                  obtain ⟨s56, h⟩ := h
                  refine go_if_eq 175 dX10_aHarm_159 (by decide) s56 (fun c57 => ?_) (fun c57 => ?_)
                  · have h := h.1 c57
                    refine go_iconst dX10_aHarm_175 ?_
                    exact go_zreturn (Nat.le_refl _) (Nat.le_refl _) rfl (by decide) dX10_aHarm_176 h
                  · have h := h.2 c57
                    refine go_aload_n 0 dX10_aHarm_162 rfl rfl ?_
                    refine go_iload_n 3 dX10_aHarm_163 rfl rfl ?_
                    refine go_iconst dX10_aHarm_164 ?_
                    refine go_iadd dX10_aHarm_165 ?_
                    refine go_iconst dX10_aHarm_166 ?_
                    refine go_bipush dX10_aHarm_167 (by decide) ?_
                    refine go_vI (M := MX10_number) [vI ((458 + (5 * (D 108 401))) + 4), vI 0, vI 16] [] mv_X10_181 (hL.1 107 _ rfl) rfl (by decide) ⟨Nat.le_of_ble_eq_true rfl, Nat.le_of_ble_eq_true rfl⟩ ⟨Nat.le_refl _, Nat.le_refl _⟩ rfl rfl (Nat.le_of_ble_eq_true rfl) dX10_aHarm_169 h (fun r60 D60 h => ?_)
                    obtain ⟨s61, h⟩ := h
                    refine go_if_ne 177 dX10_aHarm_172 (by decide) s61 (fun c62 => ?_) (fun c62 => ?_)
                    · have h := h.1 c62
                      obtain ⟨s63, h⟩ := h
                      refine go_aload_n 0 dX10_aHarm_177 rfl rfl ?_
                      refine go_getR 0 f_X10_7 rfl (hL.1 107 _ rfl) (hL.2.1 107 0 _ rfl (by decide)) dX10_aHarm_178 ?_
                      refine go_sipush dX10_aHarm_181 (by decide) ?_
                      refine go_dup2 rfl rfl dX10_aHarm_184 ?_
                      refine go_iaload (hL.1 108 _ rfl) (b := 500) rfl (by decide) (by decide) dX10_aHarm_185 ?_
                      refine go_iconst dX10_aHarm_186 ?_
                      refine go_iadd dX10_aHarm_187 ?_
                      refine go_iastore (hL.1 108 _ rfl) (b := 500) rfl (by decide) (by decide) s63 dX10_aHarm_188 ?_
                      refine go_iconst dX10_aHarm_189 ?_
                      exact go_zreturn (Nat.le_refl _) (Nat.le_refl _) rfl (by decide) dX10_aHarm_190 h
                    · have h := h.2 c62
                      refine go_iconst dX10_aHarm_175 ?_
                      exact go_zreturn (Nat.le_refl _) (Nat.le_refl _) rfl (by decide) dX10_aHarm_176 h
            · have h := h.2 c43
              refine go_iconst dX10_aHarm_129 ?_
              exact go_zreturn (Nat.le_refl _) (Nat.le_refl _) rfl (by decide) dX10_aHarm_130 h
        · have h := h.2 c11
          refine go_iconst dX10_aHarm_107 ?_
          refine go_goto 112 dX10_aHarm_108 (by decide) ?_
          refine go_iload_n 1 dX10_aHarm_112 rfl rfl ?_
          refine go_iconst dX10_aHarm_113 ?_
          refine go_icmp_ne 122 dX10_aHarm_114 (by decide) s6.2 (by decide) (fun c67 => ?_) (fun c67 => ?_)
          · have h := h.1 c67
            refine go_iconst dX10_aHarm_122 ?_
            refine go_vI (M := MX10_number) [vI ((458 + (5 * (D 108 401))) + 1), vI 0, vI 3] [] mv_X10_181 (hL.1 107 _ rfl) rfl (by decide) ⟨Nat.le_of_ble_eq_true rfl, Nat.le_of_ble_eq_true rfl⟩ ⟨Nat.le_refl _, Nat.le_refl _⟩ rfl rfl (Nat.le_of_ble_eq_true rfl) dX10_aHarm_123 h (fun r69 D69 h => ?_)
            obtain ⟨s70, h⟩ := h
            refine go_if_ne 131 dX10_aHarm_126 (by decide) s70 (fun c71 => ?_) (fun c71 => ?_)
            · have h := h.1 c71
              refine go_aload_n 0 dX10_aHarm_131 rfl rfl ?_
              refine go_bipush dX10_aHarm_132 (by decide) ?_
              refine go_vI (M := MX10_wantWord) [vI 12] [] mv_X10_178 (hL.1 107 _ rfl) rfl (by decide) ⟨Nat.le_of_ble_eq_true rfl, Nat.le_of_ble_eq_true rfl⟩ ⟨Nat.le_refl _, Nat.le_refl _⟩ rfl rfl (Nat.le_of_ble_eq_true rfl) dX10_aHarm_134 h (fun r73 D73 h => ?_)
              obtain ⟨s74, h⟩ := h
              refine go_if_eq 175 dX10_aHarm_137 (by decide) s74 (fun c75 => ?_) (fun c75 => ?_)
              · have h := h.1 c75
                refine go_iconst dX10_aHarm_175 ?_
                exact go_zreturn (Nat.le_refl _) (Nat.le_refl _) rfl (by decide) dX10_aHarm_176 h
              · have h := h.2 c75
                refine go_aload_n 0 dX10_aHarm_140 rfl rfl ?_
                refine go_iload_n 3 dX10_aHarm_141 rfl rfl ?_
                refine go_iconst dX10_aHarm_142 ?_
                refine go_iadd dX10_aHarm_143 ?_
                refine go_iconst dX10_aHarm_144 ?_
                refine go_bipush dX10_aHarm_145 (by decide) ?_
                refine go_vI (M := MX10_number) [vI ((458 + (5 * (D 108 401))) + 3), vI 0, vI 8] [] mv_X10_181 (hL.1 107 _ rfl) rfl (by decide) ⟨Nat.le_of_ble_eq_true rfl, Nat.le_of_ble_eq_true rfl⟩ ⟨Nat.le_refl _, Nat.le_refl _⟩ rfl rfl (Nat.le_of_ble_eq_true rfl) dX10_aHarm_147 h (fun r78 D78 h => ?_)
                obtain ⟨s79, h⟩ := h
                refine go_if_eq 175 dX10_aHarm_150 (by decide) s79 (fun c80 => ?_) (fun c80 => ?_)
                · have h := h.1 c80
                  refine go_iconst dX10_aHarm_175 ?_
                  exact go_zreturn (Nat.le_refl _) (Nat.le_refl _) rfl (by decide) dX10_aHarm_176 h
                · have h := h.2 c80
                  refine go_aload_n 0 dX10_aHarm_153 rfl rfl ?_
                  refine go_bipush dX10_aHarm_154 (by decide) ?_
                  refine go_vI (M := MX10_wantWord) [vI 13] [] mv_X10_178 (hL.1 107 _ rfl) rfl (by decide) ⟨Nat.le_of_ble_eq_true rfl, Nat.le_of_ble_eq_true rfl⟩ ⟨Nat.le_refl _, Nat.le_refl _⟩ rfl rfl (Nat.le_of_ble_eq_true rfl) dX10_aHarm_156 h (fun r83 D83 h => ?_)
                  obtain ⟨s84, h⟩ := h
                  refine go_if_eq 175 dX10_aHarm_159 (by decide) s84 (fun c85 => ?_) (fun c85 => ?_)
                  · have h := h.1 c85
                    refine go_iconst dX10_aHarm_175 ?_
                    exact go_zreturn (Nat.le_refl _) (Nat.le_refl _) rfl (by decide) dX10_aHarm_176 h
                  · have h := h.2 c85
                    refine go_aload_n 0 dX10_aHarm_162 rfl rfl ?_
                    refine go_iload_n 3 dX10_aHarm_163 rfl rfl ?_
                    refine go_iconst dX10_aHarm_164 ?_
                    refine go_iadd dX10_aHarm_165 ?_
                    refine go_iconst dX10_aHarm_166 ?_
                    refine go_bipush dX10_aHarm_167 (by decide) ?_
                    refine go_vI (M := MX10_number) [vI ((458 + (5 * (D 108 401))) + 4), vI 0, vI 16] [] mv_X10_181 (hL.1 107 _ rfl) rfl (by decide) ⟨Nat.le_of_ble_eq_true rfl, Nat.le_of_ble_eq_true rfl⟩ ⟨Nat.le_refl _, Nat.le_refl _⟩ rfl rfl (Nat.le_of_ble_eq_true rfl) dX10_aHarm_169 h (fun r88 D88 h => ?_)
                    obtain ⟨s89, h⟩ := h
                    refine go_if_ne 177 dX10_aHarm_172 (by decide) s89 (fun c90 => ?_) (fun c90 => ?_)
                    · have h := h.1 c90
                      obtain ⟨s91, h⟩ := h
                      refine go_aload_n 0 dX10_aHarm_177 rfl rfl ?_
                      refine go_getR 0 f_X10_7 rfl (hL.1 107 _ rfl) (hL.2.1 107 0 _ rfl (by decide)) dX10_aHarm_178 ?_
                      refine go_sipush dX10_aHarm_181 (by decide) ?_
                      refine go_dup2 rfl rfl dX10_aHarm_184 ?_
                      refine go_iaload (hL.1 108 _ rfl) (b := 500) rfl (by decide) (by decide) dX10_aHarm_185 ?_
                      refine go_iconst dX10_aHarm_186 ?_
                      refine go_iadd dX10_aHarm_187 ?_
                      refine go_iastore (hL.1 108 _ rfl) (b := 500) rfl (by decide) (by decide) s91 dX10_aHarm_188 ?_
                      refine go_iconst dX10_aHarm_189 ?_
                      exact go_zreturn (Nat.le_refl _) (Nat.le_refl _) rfl (by decide) dX10_aHarm_190 h
                    · have h := h.2 c90
                      refine go_iconst dX10_aHarm_175 ?_
                      exact go_zreturn (Nat.le_refl _) (Nat.le_refl _) rfl (by decide) dX10_aHarm_176 h
            · have h := h.2 c71
              refine go_iconst dX10_aHarm_129 ?_
              exact go_zreturn (Nat.le_refl _) (Nat.le_refl _) rfl (by decide) dX10_aHarm_130 h
          · have h := h.2 c67
            refine go_bipush dX10_aHarm_117 (by decide) ?_
            refine go_goto 123 dX10_aHarm_119 (by decide) ?_
            refine go_vI (M := MX10_number) [vI ((458 + (5 * (D 108 401))) + 1), vI 0, vI 99] [] mv_X10_181 (hL.1 107 _ rfl) rfl (by decide) ⟨Nat.le_of_ble_eq_true rfl, Nat.le_of_ble_eq_true rfl⟩ ⟨Nat.le_refl _, Nat.le_refl _⟩ rfl rfl (Nat.le_of_ble_eq_true rfl) dX10_aHarm_123 h (fun r95 D95 h => ?_)
            obtain ⟨s96, h⟩ := h
            refine go_if_ne 131 dX10_aHarm_126 (by decide) s96 (fun c97 => ?_) (fun c97 => ?_)
            · have h := h.1 c97
              refine go_aload_n 0 dX10_aHarm_131 rfl rfl ?_
              refine go_bipush dX10_aHarm_132 (by decide) ?_
              refine go_vI (M := MX10_wantWord) [vI 12] [] mv_X10_178 (hL.1 107 _ rfl) rfl (by decide) ⟨Nat.le_of_ble_eq_true rfl, Nat.le_of_ble_eq_true rfl⟩ ⟨Nat.le_refl _, Nat.le_refl _⟩ rfl rfl (Nat.le_of_ble_eq_true rfl) dX10_aHarm_134 h (fun r99 D99 h => ?_)
              obtain ⟨s100, h⟩ := h
              refine go_if_eq 175 dX10_aHarm_137 (by decide) s100 (fun c101 => ?_) (fun c101 => ?_)
              · have h := h.1 c101
                refine go_iconst dX10_aHarm_175 ?_
                exact go_zreturn (Nat.le_refl _) (Nat.le_refl _) rfl (by decide) dX10_aHarm_176 h
              · have h := h.2 c101
                refine go_aload_n 0 dX10_aHarm_140 rfl rfl ?_
                refine go_iload_n 3 dX10_aHarm_141 rfl rfl ?_
                refine go_iconst dX10_aHarm_142 ?_
                refine go_iadd dX10_aHarm_143 ?_
                refine go_iconst dX10_aHarm_144 ?_
                refine go_bipush dX10_aHarm_145 (by decide) ?_
                refine go_vI (M := MX10_number) [vI ((458 + (5 * (D 108 401))) + 3), vI 0, vI 8] [] mv_X10_181 (hL.1 107 _ rfl) rfl (by decide) ⟨Nat.le_of_ble_eq_true rfl, Nat.le_of_ble_eq_true rfl⟩ ⟨Nat.le_refl _, Nat.le_refl _⟩ rfl rfl (Nat.le_of_ble_eq_true rfl) dX10_aHarm_147 h (fun r104 D104 h => ?_)
                obtain ⟨s105, h⟩ := h
                refine go_if_eq 175 dX10_aHarm_150 (by decide) s105 (fun c106 => ?_) (fun c106 => ?_)
                · have h := h.1 c106
                  refine go_iconst dX10_aHarm_175 ?_
                  exact go_zreturn (Nat.le_refl _) (Nat.le_refl _) rfl (by decide) dX10_aHarm_176 h
                · have h := h.2 c106
                  refine go_aload_n 0 dX10_aHarm_153 rfl rfl ?_
                  refine go_bipush dX10_aHarm_154 (by decide) ?_
                  refine go_vI (M := MX10_wantWord) [vI 13] [] mv_X10_178 (hL.1 107 _ rfl) rfl (by decide) ⟨Nat.le_of_ble_eq_true rfl, Nat.le_of_ble_eq_true rfl⟩ ⟨Nat.le_refl _, Nat.le_refl _⟩ rfl rfl (Nat.le_of_ble_eq_true rfl) dX10_aHarm_156 h (fun r109 D109 h => ?_)
                  obtain ⟨s110, h⟩ := h
                  refine go_if_eq 175 dX10_aHarm_159 (by decide) s110 (fun c111 => ?_) (fun c111 => ?_)
                  · have h := h.1 c111
                    refine go_iconst dX10_aHarm_175 ?_
                    exact go_zreturn (Nat.le_refl _) (Nat.le_refl _) rfl (by decide) dX10_aHarm_176 h
                  · have h := h.2 c111
                    refine go_aload_n 0 dX10_aHarm_162 rfl rfl ?_
                    refine go_iload_n 3 dX10_aHarm_163 rfl rfl ?_
                    refine go_iconst dX10_aHarm_164 ?_
                    refine go_iadd dX10_aHarm_165 ?_
                    refine go_iconst dX10_aHarm_166 ?_
                    refine go_bipush dX10_aHarm_167 (by decide) ?_
                    refine go_vI (M := MX10_number) [vI ((458 + (5 * (D 108 401))) + 4), vI 0, vI 16] [] mv_X10_181 (hL.1 107 _ rfl) rfl (by decide) ⟨Nat.le_of_ble_eq_true rfl, Nat.le_of_ble_eq_true rfl⟩ ⟨Nat.le_refl _, Nat.le_refl _⟩ rfl rfl (Nat.le_of_ble_eq_true rfl) dX10_aHarm_169 h (fun r114 D114 h => ?_)
                    obtain ⟨s115, h⟩ := h
                    refine go_if_ne 177 dX10_aHarm_172 (by decide) s115 (fun c116 => ?_) (fun c116 => ?_)
                    · have h := h.1 c116
                      obtain ⟨s117, h⟩ := h
                      refine go_aload_n 0 dX10_aHarm_177 rfl rfl ?_
                      refine go_getR 0 f_X10_7 rfl (hL.1 107 _ rfl) (hL.2.1 107 0 _ rfl (by decide)) dX10_aHarm_178 ?_
                      refine go_sipush dX10_aHarm_181 (by decide) ?_
                      refine go_dup2 rfl rfl dX10_aHarm_184 ?_
                      refine go_iaload (hL.1 108 _ rfl) (b := 500) rfl (by decide) (by decide) dX10_aHarm_185 ?_
                      refine go_iconst dX10_aHarm_186 ?_
                      refine go_iadd dX10_aHarm_187 ?_
                      refine go_iastore (hL.1 108 _ rfl) (b := 500) rfl (by decide) (by decide) s117 dX10_aHarm_188 ?_
                      refine go_iconst dX10_aHarm_189 ?_
                      exact go_zreturn (Nat.le_refl _) (Nat.le_refl _) rfl (by decide) dX10_aHarm_190 h
                    · have h := h.2 c116
                      refine go_iconst dX10_aHarm_175 ?_
                      exact go_zreturn (Nat.le_refl _) (Nat.le_refl _) rfl (by decide) dX10_aHarm_176 h
            · have h := h.2 c97
              refine go_iconst dX10_aHarm_129 ?_
              exact go_zreturn (Nat.le_refl _) (Nat.le_refl _) rfl (by decide) dX10_aHarm_130 h
      · have h := h.2 c9
        refine go_iload_n 1 dX10_aHarm_93 rfl rfl ?_
        refine go_iconst dX10_aHarm_94 ?_
        refine go_icmp_ne 131 dX10_aHarm_95 (by decide) s6.2 (by decide) (fun c121 => ?_) (fun c121 => ?_)
        · have h := h.1 c121
          refine go_aload_n 0 dX10_aHarm_131 rfl rfl ?_
          refine go_bipush dX10_aHarm_132 (by decide) ?_
          refine go_vI (M := MX10_wantWord) [vI 12] [] mv_X10_178 (hL.1 107 _ rfl) rfl (by decide) ⟨Nat.le_of_ble_eq_true rfl, Nat.le_of_ble_eq_true rfl⟩ ⟨Nat.le_refl _, Nat.le_refl _⟩ rfl rfl (Nat.le_of_ble_eq_true rfl) dX10_aHarm_134 h (fun r123 D123 h => ?_)
          obtain ⟨s124, h⟩ := h
          refine go_if_eq 175 dX10_aHarm_137 (by decide) s124 (fun c125 => ?_) (fun c125 => ?_)
          · have h := h.1 c125
            refine go_iconst dX10_aHarm_175 ?_
            exact go_zreturn (Nat.le_refl _) (Nat.le_refl _) rfl (by decide) dX10_aHarm_176 h
          · have h := h.2 c125
            refine go_aload_n 0 dX10_aHarm_140 rfl rfl ?_
            refine go_iload_n 3 dX10_aHarm_141 rfl rfl ?_
            refine go_iconst dX10_aHarm_142 ?_
            refine go_iadd dX10_aHarm_143 ?_
            refine go_iconst dX10_aHarm_144 ?_
            refine go_bipush dX10_aHarm_145 (by decide) ?_
            refine go_vI (M := MX10_number) [vI ((458 + (5 * (D 108 401))) + 3), vI 0, vI 8] [] mv_X10_181 (hL.1 107 _ rfl) rfl (by decide) ⟨Nat.le_of_ble_eq_true rfl, Nat.le_of_ble_eq_true rfl⟩ ⟨Nat.le_refl _, Nat.le_refl _⟩ rfl rfl (Nat.le_of_ble_eq_true rfl) dX10_aHarm_147 h (fun r128 D128 h => ?_)
            obtain ⟨s129, h⟩ := h
            refine go_if_eq 175 dX10_aHarm_150 (by decide) s129 (fun c130 => ?_) (fun c130 => ?_)
            · have h := h.1 c130
              refine go_iconst dX10_aHarm_175 ?_
              exact go_zreturn (Nat.le_refl _) (Nat.le_refl _) rfl (by decide) dX10_aHarm_176 h
            · have h := h.2 c130
              refine go_aload_n 0 dX10_aHarm_153 rfl rfl ?_
              refine go_bipush dX10_aHarm_154 (by decide) ?_
              refine go_vI (M := MX10_wantWord) [vI 13] [] mv_X10_178 (hL.1 107 _ rfl) rfl (by decide) ⟨Nat.le_of_ble_eq_true rfl, Nat.le_of_ble_eq_true rfl⟩ ⟨Nat.le_refl _, Nat.le_refl _⟩ rfl rfl (Nat.le_of_ble_eq_true rfl) dX10_aHarm_156 h (fun r133 D133 h => ?_)
              obtain ⟨s134, h⟩ := h
              refine go_if_eq 175 dX10_aHarm_159 (by decide) s134 (fun c135 => ?_) (fun c135 => ?_)
              · have h := h.1 c135
                refine go_iconst dX10_aHarm_175 ?_
                exact go_zreturn (Nat.le_refl _) (Nat.le_refl _) rfl (by decide) dX10_aHarm_176 h
              · have h := h.2 c135
                refine go_aload_n 0 dX10_aHarm_162 rfl rfl ?_
                refine go_iload_n 3 dX10_aHarm_163 rfl rfl ?_
                refine go_iconst dX10_aHarm_164 ?_
                refine go_iadd dX10_aHarm_165 ?_
                refine go_iconst dX10_aHarm_166 ?_
                refine go_bipush dX10_aHarm_167 (by decide) ?_
                refine go_vI (M := MX10_number) [vI ((458 + (5 * (D 108 401))) + 4), vI 0, vI 16] [] mv_X10_181 (hL.1 107 _ rfl) rfl (by decide) ⟨Nat.le_of_ble_eq_true rfl, Nat.le_of_ble_eq_true rfl⟩ ⟨Nat.le_refl _, Nat.le_refl _⟩ rfl rfl (Nat.le_of_ble_eq_true rfl) dX10_aHarm_169 h (fun r138 D138 h => ?_)
                obtain ⟨s139, h⟩ := h
                refine go_if_ne 177 dX10_aHarm_172 (by decide) s139 (fun c140 => ?_) (fun c140 => ?_)
                · have h := h.1 c140
                  obtain ⟨s141, h⟩ := h
                  refine go_aload_n 0 dX10_aHarm_177 rfl rfl ?_
                  refine go_getR 0 f_X10_7 rfl (hL.1 107 _ rfl) (hL.2.1 107 0 _ rfl (by decide)) dX10_aHarm_178 ?_
                  refine go_sipush dX10_aHarm_181 (by decide) ?_
                  refine go_dup2 rfl rfl dX10_aHarm_184 ?_
                  refine go_iaload (hL.1 108 _ rfl) (b := 500) rfl (by decide) (by decide) dX10_aHarm_185 ?_
                  refine go_iconst dX10_aHarm_186 ?_
                  refine go_iadd dX10_aHarm_187 ?_
                  refine go_iastore (hL.1 108 _ rfl) (b := 500) rfl (by decide) (by decide) s141 dX10_aHarm_188 ?_
                  refine go_iconst dX10_aHarm_189 ?_
                  exact go_zreturn (Nat.le_refl _) (Nat.le_refl _) rfl (by decide) dX10_aHarm_190 h
                · have h := h.2 c140
                  refine go_iconst dX10_aHarm_175 ?_
                  exact go_zreturn (Nat.le_refl _) (Nat.le_refl _) rfl (by decide) dX10_aHarm_176 h
        · have h := h.2 c121
          refine go_aload_n 0 dX10_aHarm_98 rfl rfl ?_
          refine go_iload_n 3 dX10_aHarm_99 rfl rfl ?_
          refine go_iconst dX10_aHarm_100 ?_
          refine go_iadd dX10_aHarm_101 ?_
          refine go_iload_n 1 dX10_aHarm_102 rfl rfl ?_
          refine go_iconst dX10_aHarm_103 ?_
          refine go_icmp_ne 111 dX10_aHarm_104 (by decide) s6.2 (by decide) (fun c144 => ?_) (fun c144 => ?_)
          · have h := h.1 c144
            refine go_iconst dX10_aHarm_111 ?_
            refine go_iload_n 1 dX10_aHarm_112 rfl rfl ?_
            refine go_iconst dX10_aHarm_113 ?_
            refine go_icmp_ne 122 dX10_aHarm_114 (by decide) s6.2 (by decide) (fun c146 => ?_) (fun c146 => ?_)
            · have h := h.1 c146
              refine go_iconst dX10_aHarm_122 ?_
              refine go_vI (M := MX10_number) [vI ((458 + (5 * (D 108 401))) + 1), vI 1, vI 3] [] mv_X10_181 (hL.1 107 _ rfl) rfl (by decide) ⟨Nat.le_of_ble_eq_true rfl, Nat.le_of_ble_eq_true rfl⟩ ⟨Nat.le_refl _, Nat.le_refl _⟩ rfl rfl (Nat.le_of_ble_eq_true rfl) dX10_aHarm_123 h (fun r148 D148 h => ?_)
              obtain ⟨s149, h⟩ := h
              refine go_if_ne 131 dX10_aHarm_126 (by decide) s149 (fun c150 => ?_) (fun c150 => ?_)
              · have h := h.1 c150
                refine go_aload_n 0 dX10_aHarm_131 rfl rfl ?_
                refine go_bipush dX10_aHarm_132 (by decide) ?_
                refine go_vI (M := MX10_wantWord) [vI 12] [] mv_X10_178 (hL.1 107 _ rfl) rfl (by decide) ⟨Nat.le_of_ble_eq_true rfl, Nat.le_of_ble_eq_true rfl⟩ ⟨Nat.le_refl _, Nat.le_refl _⟩ rfl rfl (Nat.le_of_ble_eq_true rfl) dX10_aHarm_134 h (fun r152 D152 h => ?_)
                obtain ⟨s153, h⟩ := h
                refine go_if_eq 175 dX10_aHarm_137 (by decide) s153 (fun c154 => ?_) (fun c154 => ?_)
                · have h := h.1 c154
                  refine go_iconst dX10_aHarm_175 ?_
                  exact go_zreturn (Nat.le_refl _) (Nat.le_refl _) rfl (by decide) dX10_aHarm_176 h
                · have h := h.2 c154
                  refine go_aload_n 0 dX10_aHarm_140 rfl rfl ?_
                  refine go_iload_n 3 dX10_aHarm_141 rfl rfl ?_
                  refine go_iconst dX10_aHarm_142 ?_
                  refine go_iadd dX10_aHarm_143 ?_
                  refine go_iconst dX10_aHarm_144 ?_
                  refine go_bipush dX10_aHarm_145 (by decide) ?_
                  refine go_vI (M := MX10_number) [vI ((458 + (5 * (D 108 401))) + 3), vI 0, vI 8] [] mv_X10_181 (hL.1 107 _ rfl) rfl (by decide) ⟨Nat.le_of_ble_eq_true rfl, Nat.le_of_ble_eq_true rfl⟩ ⟨Nat.le_refl _, Nat.le_refl _⟩ rfl rfl (Nat.le_of_ble_eq_true rfl) dX10_aHarm_147 h (fun r157 D157 h => ?_)
                  obtain ⟨s158, h⟩ := h
                  refine go_if_eq 175 dX10_aHarm_150 (by decide) s158 (fun c159 => ?_) (fun c159 => ?_)
                  · have h := h.1 c159
                    refine go_iconst dX10_aHarm_175 ?_
                    exact go_zreturn (Nat.le_refl _) (Nat.le_refl _) rfl (by decide) dX10_aHarm_176 h
                  · have h := h.2 c159
                    refine go_aload_n 0 dX10_aHarm_153 rfl rfl ?_
                    refine go_bipush dX10_aHarm_154 (by decide) ?_
                    refine go_vI (M := MX10_wantWord) [vI 13] [] mv_X10_178 (hL.1 107 _ rfl) rfl (by decide) ⟨Nat.le_of_ble_eq_true rfl, Nat.le_of_ble_eq_true rfl⟩ ⟨Nat.le_refl _, Nat.le_refl _⟩ rfl rfl (Nat.le_of_ble_eq_true rfl) dX10_aHarm_156 h (fun r162 D162 h => ?_)
                    obtain ⟨s163, h⟩ := h
                    refine go_if_eq 175 dX10_aHarm_159 (by decide) s163 (fun c164 => ?_) (fun c164 => ?_)
                    · have h := h.1 c164
                      refine go_iconst dX10_aHarm_175 ?_
                      exact go_zreturn (Nat.le_refl _) (Nat.le_refl _) rfl (by decide) dX10_aHarm_176 h
                    · have h := h.2 c164
                      refine go_aload_n 0 dX10_aHarm_162 rfl rfl ?_
                      refine go_iload_n 3 dX10_aHarm_163 rfl rfl ?_
                      refine go_iconst dX10_aHarm_164 ?_
                      refine go_iadd dX10_aHarm_165 ?_
                      refine go_iconst dX10_aHarm_166 ?_
                      refine go_bipush dX10_aHarm_167 (by decide) ?_
                      refine go_vI (M := MX10_number) [vI ((458 + (5 * (D 108 401))) + 4), vI 0, vI 16] [] mv_X10_181 (hL.1 107 _ rfl) rfl (by decide) ⟨Nat.le_of_ble_eq_true rfl, Nat.le_of_ble_eq_true rfl⟩ ⟨Nat.le_refl _, Nat.le_refl _⟩ rfl rfl (Nat.le_of_ble_eq_true rfl) dX10_aHarm_169 h (fun r167 D167 h => ?_)
                      obtain ⟨s168, h⟩ := h
                      refine go_if_ne 177 dX10_aHarm_172 (by decide) s168 (fun c169 => ?_) (fun c169 => ?_)
                      · have h := h.1 c169
                        obtain ⟨s170, h⟩ := h
                        refine go_aload_n 0 dX10_aHarm_177 rfl rfl ?_
                        refine go_getR 0 f_X10_7 rfl (hL.1 107 _ rfl) (hL.2.1 107 0 _ rfl (by decide)) dX10_aHarm_178 ?_
                        refine go_sipush dX10_aHarm_181 (by decide) ?_
                        refine go_dup2 rfl rfl dX10_aHarm_184 ?_
                        refine go_iaload (hL.1 108 _ rfl) (b := 500) rfl (by decide) (by decide) dX10_aHarm_185 ?_
                        refine go_iconst dX10_aHarm_186 ?_
                        refine go_iadd dX10_aHarm_187 ?_
                        refine go_iastore (hL.1 108 _ rfl) (b := 500) rfl (by decide) (by decide) s170 dX10_aHarm_188 ?_
                        refine go_iconst dX10_aHarm_189 ?_
                        exact go_zreturn (Nat.le_refl _) (Nat.le_refl _) rfl (by decide) dX10_aHarm_190 h
                      · have h := h.2 c169
                        refine go_iconst dX10_aHarm_175 ?_
                        exact go_zreturn (Nat.le_refl _) (Nat.le_refl _) rfl (by decide) dX10_aHarm_176 h
              · have h := h.2 c150
                refine go_iconst dX10_aHarm_129 ?_
                exact go_zreturn (Nat.le_refl _) (Nat.le_refl _) rfl (by decide) dX10_aHarm_130 h
            · have h := h.2 c146
              refine go_bipush dX10_aHarm_117 (by decide) ?_
              refine go_goto 123 dX10_aHarm_119 (by decide) ?_
              refine go_vI (M := MX10_number) [vI ((458 + (5 * (D 108 401))) + 1), vI 1, vI 99] [] mv_X10_181 (hL.1 107 _ rfl) rfl (by decide) ⟨Nat.le_of_ble_eq_true rfl, Nat.le_of_ble_eq_true rfl⟩ ⟨Nat.le_refl _, Nat.le_refl _⟩ rfl rfl (Nat.le_of_ble_eq_true rfl) dX10_aHarm_123 h (fun r174 D174 h => ?_)
              obtain ⟨s175, h⟩ := h
              refine go_if_ne 131 dX10_aHarm_126 (by decide) s175 (fun c176 => ?_) (fun c176 => ?_)
              · have h := h.1 c176
                refine go_aload_n 0 dX10_aHarm_131 rfl rfl ?_
                refine go_bipush dX10_aHarm_132 (by decide) ?_
                refine go_vI (M := MX10_wantWord) [vI 12] [] mv_X10_178 (hL.1 107 _ rfl) rfl (by decide) ⟨Nat.le_of_ble_eq_true rfl, Nat.le_of_ble_eq_true rfl⟩ ⟨Nat.le_refl _, Nat.le_refl _⟩ rfl rfl (Nat.le_of_ble_eq_true rfl) dX10_aHarm_134 h (fun r178 D178 h => ?_)
                obtain ⟨s179, h⟩ := h
                refine go_if_eq 175 dX10_aHarm_137 (by decide) s179 (fun c180 => ?_) (fun c180 => ?_)
                · have h := h.1 c180
                  refine go_iconst dX10_aHarm_175 ?_
                  exact go_zreturn (Nat.le_refl _) (Nat.le_refl _) rfl (by decide) dX10_aHarm_176 h
                · have h := h.2 c180
                  refine go_aload_n 0 dX10_aHarm_140 rfl rfl ?_
                  refine go_iload_n 3 dX10_aHarm_141 rfl rfl ?_
                  refine go_iconst dX10_aHarm_142 ?_
                  refine go_iadd dX10_aHarm_143 ?_
                  refine go_iconst dX10_aHarm_144 ?_
                  refine go_bipush dX10_aHarm_145 (by decide) ?_
                  refine go_vI (M := MX10_number) [vI ((458 + (5 * (D 108 401))) + 3), vI 0, vI 8] [] mv_X10_181 (hL.1 107 _ rfl) rfl (by decide) ⟨Nat.le_of_ble_eq_true rfl, Nat.le_of_ble_eq_true rfl⟩ ⟨Nat.le_refl _, Nat.le_refl _⟩ rfl rfl (Nat.le_of_ble_eq_true rfl) dX10_aHarm_147 h (fun r183 D183 h => ?_)
                  obtain ⟨s184, h⟩ := h
                  refine go_if_eq 175 dX10_aHarm_150 (by decide) s184 (fun c185 => ?_) (fun c185 => ?_)
                  · have h := h.1 c185
                    refine go_iconst dX10_aHarm_175 ?_
                    exact go_zreturn (Nat.le_refl _) (Nat.le_refl _) rfl (by decide) dX10_aHarm_176 h
                  · have h := h.2 c185
                    refine go_aload_n 0 dX10_aHarm_153 rfl rfl ?_
                    refine go_bipush dX10_aHarm_154 (by decide) ?_
                    refine go_vI (M := MX10_wantWord) [vI 13] [] mv_X10_178 (hL.1 107 _ rfl) rfl (by decide) ⟨Nat.le_of_ble_eq_true rfl, Nat.le_of_ble_eq_true rfl⟩ ⟨Nat.le_refl _, Nat.le_refl _⟩ rfl rfl (Nat.le_of_ble_eq_true rfl) dX10_aHarm_156 h (fun r188 D188 h => ?_)
                    obtain ⟨s189, h⟩ := h
                    refine go_if_eq 175 dX10_aHarm_159 (by decide) s189 (fun c190 => ?_) (fun c190 => ?_)
                    · have h := h.1 c190
                      refine go_iconst dX10_aHarm_175 ?_
                      exact go_zreturn (Nat.le_refl _) (Nat.le_refl _) rfl (by decide) dX10_aHarm_176 h
                    · have h := h.2 c190
                      refine go_aload_n 0 dX10_aHarm_162 rfl rfl ?_
                      refine go_iload_n 3 dX10_aHarm_163 rfl rfl ?_
                      refine go_iconst dX10_aHarm_164 ?_
                      refine go_iadd dX10_aHarm_165 ?_
                      refine go_iconst dX10_aHarm_166 ?_
                      refine go_bipush dX10_aHarm_167 (by decide) ?_
                      refine go_vI (M := MX10_number) [vI ((458 + (5 * (D 108 401))) + 4), vI 0, vI 16] [] mv_X10_181 (hL.1 107 _ rfl) rfl (by decide) ⟨Nat.le_of_ble_eq_true rfl, Nat.le_of_ble_eq_true rfl⟩ ⟨Nat.le_refl _, Nat.le_refl _⟩ rfl rfl (Nat.le_of_ble_eq_true rfl) dX10_aHarm_169 h (fun r193 D193 h => ?_)
                      obtain ⟨s194, h⟩ := h
                      refine go_if_ne 177 dX10_aHarm_172 (by decide) s194 (fun c195 => ?_) (fun c195 => ?_)
                      · have h := h.1 c195
                        obtain ⟨s196, h⟩ := h
                        refine go_aload_n 0 dX10_aHarm_177 rfl rfl ?_
                        refine go_getR 0 f_X10_7 rfl (hL.1 107 _ rfl) (hL.2.1 107 0 _ rfl (by decide)) dX10_aHarm_178 ?_
                        refine go_sipush dX10_aHarm_181 (by decide) ?_
                        refine go_dup2 rfl rfl dX10_aHarm_184 ?_
                        refine go_iaload (hL.1 108 _ rfl) (b := 500) rfl (by decide) (by decide) dX10_aHarm_185 ?_
                        refine go_iconst dX10_aHarm_186 ?_
                        refine go_iadd dX10_aHarm_187 ?_
                        refine go_iastore (hL.1 108 _ rfl) (b := 500) rfl (by decide) (by decide) s196 dX10_aHarm_188 ?_
                        refine go_iconst dX10_aHarm_189 ?_
                        exact go_zreturn (Nat.le_refl _) (Nat.le_refl _) rfl (by decide) dX10_aHarm_190 h
                      · have h := h.2 c195
                        refine go_iconst dX10_aHarm_175 ?_
                        exact go_zreturn (Nat.le_refl _) (Nat.le_refl _) rfl (by decide) dX10_aHarm_176 h
              · have h := h.2 c176
                refine go_iconst dX10_aHarm_129 ?_
                exact go_zreturn (Nat.le_refl _) (Nat.le_refl _) rfl (by decide) dX10_aHarm_130 h
          · have h := h.2 c144
            refine go_iconst dX10_aHarm_107 ?_
            refine go_goto 112 dX10_aHarm_108 (by decide) ?_
            refine go_iload_n 1 dX10_aHarm_112 rfl rfl ?_
            refine go_iconst dX10_aHarm_113 ?_
            refine go_icmp_ne 122 dX10_aHarm_114 (by decide) s6.2 (by decide) (fun c200 => ?_) (fun c200 => ?_)
            · have h := h.1 c200
              refine go_iconst dX10_aHarm_122 ?_
              refine go_vI (M := MX10_number) [vI ((458 + (5 * (D 108 401))) + 1), vI 0, vI 3] [] mv_X10_181 (hL.1 107 _ rfl) rfl (by decide) ⟨Nat.le_of_ble_eq_true rfl, Nat.le_of_ble_eq_true rfl⟩ ⟨Nat.le_refl _, Nat.le_refl _⟩ rfl rfl (Nat.le_of_ble_eq_true rfl) dX10_aHarm_123 h (fun r202 D202 h => ?_)
              obtain ⟨s203, h⟩ := h
              refine go_if_ne 131 dX10_aHarm_126 (by decide) s203 (fun c204 => ?_) (fun c204 => ?_)
              · have h := h.1 c204
                refine go_aload_n 0 dX10_aHarm_131 rfl rfl ?_
                refine go_bipush dX10_aHarm_132 (by decide) ?_
                refine go_vI (M := MX10_wantWord) [vI 12] [] mv_X10_178 (hL.1 107 _ rfl) rfl (by decide) ⟨Nat.le_of_ble_eq_true rfl, Nat.le_of_ble_eq_true rfl⟩ ⟨Nat.le_refl _, Nat.le_refl _⟩ rfl rfl (Nat.le_of_ble_eq_true rfl) dX10_aHarm_134 h (fun r206 D206 h => ?_)
                obtain ⟨s207, h⟩ := h
                refine go_if_eq 175 dX10_aHarm_137 (by decide) s207 (fun c208 => ?_) (fun c208 => ?_)
                · have h := h.1 c208
                  refine go_iconst dX10_aHarm_175 ?_
                  exact go_zreturn (Nat.le_refl _) (Nat.le_refl _) rfl (by decide) dX10_aHarm_176 h
                · have h := h.2 c208
                  refine go_aload_n 0 dX10_aHarm_140 rfl rfl ?_
                  refine go_iload_n 3 dX10_aHarm_141 rfl rfl ?_
                  refine go_iconst dX10_aHarm_142 ?_
                  refine go_iadd dX10_aHarm_143 ?_
                  refine go_iconst dX10_aHarm_144 ?_
                  refine go_bipush dX10_aHarm_145 (by decide) ?_
                  refine go_vI (M := MX10_number) [vI ((458 + (5 * (D 108 401))) + 3), vI 0, vI 8] [] mv_X10_181 (hL.1 107 _ rfl) rfl (by decide) ⟨Nat.le_of_ble_eq_true rfl, Nat.le_of_ble_eq_true rfl⟩ ⟨Nat.le_refl _, Nat.le_refl _⟩ rfl rfl (Nat.le_of_ble_eq_true rfl) dX10_aHarm_147 h (fun r211 D211 h => ?_)
                  obtain ⟨s212, h⟩ := h
                  refine go_if_eq 175 dX10_aHarm_150 (by decide) s212 (fun c213 => ?_) (fun c213 => ?_)
                  · have h := h.1 c213
                    refine go_iconst dX10_aHarm_175 ?_
                    exact go_zreturn (Nat.le_refl _) (Nat.le_refl _) rfl (by decide) dX10_aHarm_176 h
                  · have h := h.2 c213
                    refine go_aload_n 0 dX10_aHarm_153 rfl rfl ?_
                    refine go_bipush dX10_aHarm_154 (by decide) ?_
                    refine go_vI (M := MX10_wantWord) [vI 13] [] mv_X10_178 (hL.1 107 _ rfl) rfl (by decide) ⟨Nat.le_of_ble_eq_true rfl, Nat.le_of_ble_eq_true rfl⟩ ⟨Nat.le_refl _, Nat.le_refl _⟩ rfl rfl (Nat.le_of_ble_eq_true rfl) dX10_aHarm_156 h (fun r216 D216 h => ?_)
                    obtain ⟨s217, h⟩ := h
                    refine go_if_eq 175 dX10_aHarm_159 (by decide) s217 (fun c218 => ?_) (fun c218 => ?_)
                    · have h := h.1 c218
                      refine go_iconst dX10_aHarm_175 ?_
                      exact go_zreturn (Nat.le_refl _) (Nat.le_refl _) rfl (by decide) dX10_aHarm_176 h
                    · have h := h.2 c218
                      refine go_aload_n 0 dX10_aHarm_162 rfl rfl ?_
                      refine go_iload_n 3 dX10_aHarm_163 rfl rfl ?_
                      refine go_iconst dX10_aHarm_164 ?_
                      refine go_iadd dX10_aHarm_165 ?_
                      refine go_iconst dX10_aHarm_166 ?_
                      refine go_bipush dX10_aHarm_167 (by decide) ?_
                      refine go_vI (M := MX10_number) [vI ((458 + (5 * (D 108 401))) + 4), vI 0, vI 16] [] mv_X10_181 (hL.1 107 _ rfl) rfl (by decide) ⟨Nat.le_of_ble_eq_true rfl, Nat.le_of_ble_eq_true rfl⟩ ⟨Nat.le_refl _, Nat.le_refl _⟩ rfl rfl (Nat.le_of_ble_eq_true rfl) dX10_aHarm_169 h (fun r221 D221 h => ?_)
                      obtain ⟨s222, h⟩ := h
                      refine go_if_ne 177 dX10_aHarm_172 (by decide) s222 (fun c223 => ?_) (fun c223 => ?_)
                      · have h := h.1 c223
                        obtain ⟨s224, h⟩ := h
                        refine go_aload_n 0 dX10_aHarm_177 rfl rfl ?_
                        refine go_getR 0 f_X10_7 rfl (hL.1 107 _ rfl) (hL.2.1 107 0 _ rfl (by decide)) dX10_aHarm_178 ?_
                        refine go_sipush dX10_aHarm_181 (by decide) ?_
                        refine go_dup2 rfl rfl dX10_aHarm_184 ?_
                        refine go_iaload (hL.1 108 _ rfl) (b := 500) rfl (by decide) (by decide) dX10_aHarm_185 ?_
                        refine go_iconst dX10_aHarm_186 ?_
                        refine go_iadd dX10_aHarm_187 ?_
                        refine go_iastore (hL.1 108 _ rfl) (b := 500) rfl (by decide) (by decide) s224 dX10_aHarm_188 ?_
                        refine go_iconst dX10_aHarm_189 ?_
                        exact go_zreturn (Nat.le_refl _) (Nat.le_refl _) rfl (by decide) dX10_aHarm_190 h
                      · have h := h.2 c223
                        refine go_iconst dX10_aHarm_175 ?_
                        exact go_zreturn (Nat.le_refl _) (Nat.le_refl _) rfl (by decide) dX10_aHarm_176 h
              · have h := h.2 c204
                refine go_iconst dX10_aHarm_129 ?_
                exact go_zreturn (Nat.le_refl _) (Nat.le_refl _) rfl (by decide) dX10_aHarm_130 h
            · have h := h.2 c200
              refine go_bipush dX10_aHarm_117 (by decide) ?_
              refine go_goto 123 dX10_aHarm_119 (by decide) ?_
              refine go_vI (M := MX10_number) [vI ((458 + (5 * (D 108 401))) + 1), vI 0, vI 99] [] mv_X10_181 (hL.1 107 _ rfl) rfl (by decide) ⟨Nat.le_of_ble_eq_true rfl, Nat.le_of_ble_eq_true rfl⟩ ⟨Nat.le_refl _, Nat.le_refl _⟩ rfl rfl (Nat.le_of_ble_eq_true rfl) dX10_aHarm_123 h (fun r228 D228 h => ?_)
              obtain ⟨s229, h⟩ := h
              refine go_if_ne 131 dX10_aHarm_126 (by decide) s229 (fun c230 => ?_) (fun c230 => ?_)
              · have h := h.1 c230
                refine go_aload_n 0 dX10_aHarm_131 rfl rfl ?_
                refine go_bipush dX10_aHarm_132 (by decide) ?_
                refine go_vI (M := MX10_wantWord) [vI 12] [] mv_X10_178 (hL.1 107 _ rfl) rfl (by decide) ⟨Nat.le_of_ble_eq_true rfl, Nat.le_of_ble_eq_true rfl⟩ ⟨Nat.le_refl _, Nat.le_refl _⟩ rfl rfl (Nat.le_of_ble_eq_true rfl) dX10_aHarm_134 h (fun r232 D232 h => ?_)
                obtain ⟨s233, h⟩ := h
                refine go_if_eq 175 dX10_aHarm_137 (by decide) s233 (fun c234 => ?_) (fun c234 => ?_)
                · have h := h.1 c234
                  refine go_iconst dX10_aHarm_175 ?_
                  exact go_zreturn (Nat.le_refl _) (Nat.le_refl _) rfl (by decide) dX10_aHarm_176 h
                · have h := h.2 c234
                  refine go_aload_n 0 dX10_aHarm_140 rfl rfl ?_
                  refine go_iload_n 3 dX10_aHarm_141 rfl rfl ?_
                  refine go_iconst dX10_aHarm_142 ?_
                  refine go_iadd dX10_aHarm_143 ?_
                  refine go_iconst dX10_aHarm_144 ?_
                  refine go_bipush dX10_aHarm_145 (by decide) ?_
                  refine go_vI (M := MX10_number) [vI ((458 + (5 * (D 108 401))) + 3), vI 0, vI 8] [] mv_X10_181 (hL.1 107 _ rfl) rfl (by decide) ⟨Nat.le_of_ble_eq_true rfl, Nat.le_of_ble_eq_true rfl⟩ ⟨Nat.le_refl _, Nat.le_refl _⟩ rfl rfl (Nat.le_of_ble_eq_true rfl) dX10_aHarm_147 h (fun r237 D237 h => ?_)
                  obtain ⟨s238, h⟩ := h
                  refine go_if_eq 175 dX10_aHarm_150 (by decide) s238 (fun c239 => ?_) (fun c239 => ?_)
                  · have h := h.1 c239
                    refine go_iconst dX10_aHarm_175 ?_
                    exact go_zreturn (Nat.le_refl _) (Nat.le_refl _) rfl (by decide) dX10_aHarm_176 h
                  · have h := h.2 c239
                    refine go_aload_n 0 dX10_aHarm_153 rfl rfl ?_
                    refine go_bipush dX10_aHarm_154 (by decide) ?_
                    refine go_vI (M := MX10_wantWord) [vI 13] [] mv_X10_178 (hL.1 107 _ rfl) rfl (by decide) ⟨Nat.le_of_ble_eq_true rfl, Nat.le_of_ble_eq_true rfl⟩ ⟨Nat.le_refl _, Nat.le_refl _⟩ rfl rfl (Nat.le_of_ble_eq_true rfl) dX10_aHarm_156 h (fun r242 D242 h => ?_)
                    obtain ⟨s243, h⟩ := h
                    refine go_if_eq 175 dX10_aHarm_159 (by decide) s243 (fun c244 => ?_) (fun c244 => ?_)
                    · have h := h.1 c244
                      refine go_iconst dX10_aHarm_175 ?_
                      exact go_zreturn (Nat.le_refl _) (Nat.le_refl _) rfl (by decide) dX10_aHarm_176 h
                    · have h := h.2 c244
                      refine go_aload_n 0 dX10_aHarm_162 rfl rfl ?_
                      refine go_iload_n 3 dX10_aHarm_163 rfl rfl ?_
                      refine go_iconst dX10_aHarm_164 ?_
                      refine go_iadd dX10_aHarm_165 ?_
                      refine go_iconst dX10_aHarm_166 ?_
                      refine go_bipush dX10_aHarm_167 (by decide) ?_
                      refine go_vI (M := MX10_number) [vI ((458 + (5 * (D 108 401))) + 4), vI 0, vI 16] [] mv_X10_181 (hL.1 107 _ rfl) rfl (by decide) ⟨Nat.le_of_ble_eq_true rfl, Nat.le_of_ble_eq_true rfl⟩ ⟨Nat.le_refl _, Nat.le_refl _⟩ rfl rfl (Nat.le_of_ble_eq_true rfl) dX10_aHarm_169 h (fun r247 D247 h => ?_)
                      obtain ⟨s248, h⟩ := h
                      refine go_if_ne 177 dX10_aHarm_172 (by decide) s248 (fun c249 => ?_) (fun c249 => ?_)
                      · have h := h.1 c249
                        obtain ⟨s250, h⟩ := h
                        refine go_aload_n 0 dX10_aHarm_177 rfl rfl ?_
                        refine go_getR 0 f_X10_7 rfl (hL.1 107 _ rfl) (hL.2.1 107 0 _ rfl (by decide)) dX10_aHarm_178 ?_
                        refine go_sipush dX10_aHarm_181 (by decide) ?_
                        refine go_dup2 rfl rfl dX10_aHarm_184 ?_
                        refine go_iaload (hL.1 108 _ rfl) (b := 500) rfl (by decide) (by decide) dX10_aHarm_185 ?_
                        refine go_iconst dX10_aHarm_186 ?_
                        refine go_iadd dX10_aHarm_187 ?_
                        refine go_iastore (hL.1 108 _ rfl) (b := 500) rfl (by decide) (by decide) s250 dX10_aHarm_188 ?_
                        refine go_iconst dX10_aHarm_189 ?_
                        exact go_zreturn (Nat.le_refl _) (Nat.le_refl _) rfl (by decide) dX10_aHarm_190 h
                      · have h := h.2 c249
                        refine go_iconst dX10_aHarm_175 ?_
                        exact go_zreturn (Nat.le_refl _) (Nat.le_refl _) rfl (by decide) dX10_aHarm_176 h
              · have h := h.2 c230
                refine go_iconst dX10_aHarm_129 ?_
                exact go_zreturn (Nat.le_refl _) (Nat.le_refl _) rfl (by decide) dX10_aHarm_130 h
    · have h := h.2 c7
      refine go_aload_n 0 dX10_aHarm_44 rfl rfl ?_
      refine go_iload_n 3 dX10_aHarm_45 rfl rfl ?_
      refine go_iconst dX10_aHarm_46 ?_
      refine go_iadd dX10_aHarm_47 ?_
      refine go_iconst dX10_aHarm_48 ?_
      refine go_bipush dX10_aHarm_49 (by decide) ?_
      refine go_vI (M := MX10_number) [vI ((458 + (5 * (D 108 401))) + 1), vI 0, vI 99] [] mv_X10_181 (hL.1 107 _ rfl) rfl (by decide) ⟨Nat.le_of_ble_eq_true rfl, Nat.le_of_ble_eq_true rfl⟩ ⟨Nat.le_refl _, Nat.le_refl _⟩ rfl rfl (Nat.le_of_ble_eq_true rfl) dX10_aHarm_51 h (fun r254 D254 h => ?_)
      obtain ⟨s255, h⟩ := h
      refine go_if_eq 86 dX10_aHarm_54 (by decide) s255 (fun c256 => ?_) (fun c256 => ?_)
      · have h := h.1 c256
        refine go_iconst dX10_aHarm_86 ?_
        exact go_zreturn (Nat.le_refl _) (Nat.le_refl _) rfl (by decide) dX10_aHarm_87 h
      · have h := h.2 c256
        refine go_aload_n 0 dX10_aHarm_57 rfl rfl ?_
        refine go_bipush dX10_aHarm_58 (by decide) ?_
        refine go_vI (M := MX10_wantWord) [vI 9] [] mv_X10_178 (hL.1 107 _ rfl) rfl (by decide) ⟨Nat.le_of_ble_eq_true rfl, Nat.le_of_ble_eq_true rfl⟩ ⟨Nat.le_refl _, Nat.le_refl _⟩ rfl rfl (Nat.le_of_ble_eq_true rfl) dX10_aHarm_60 h (fun r259 D259 h => ?_)
        obtain ⟨s260, h⟩ := h
        refine go_if_eq 86 dX10_aHarm_63 (by decide) s260 (fun c261 => ?_) (fun c261 => ?_)
        · have h := h.1 c261
          refine go_iconst dX10_aHarm_86 ?_
          exact go_zreturn (Nat.le_refl _) (Nat.le_refl _) rfl (by decide) dX10_aHarm_87 h
        · have h := h.2 c261
          obtain ⟨s263, h⟩ := h
          refine go_aload_n 0 dX10_aHarm_66 rfl rfl ?_
          refine go_iload_n 3 dX10_aHarm_67 rfl rfl ?_
          refine go_iconst dX10_aHarm_68 ?_
          refine go_iadd dX10_aHarm_69 ?_
          refine go_aload_n 0 dX10_aHarm_70 rfl rfl ?_
          refine go_getR 0 f_X10_7 rfl (hL.1 107 _ rfl) (hL.2.1 107 0 _ rfl (by decide)) dX10_aHarm_71 ?_
          refine go_iload_n 3 dX10_aHarm_74 rfl rfl ?_
          refine go_iconst dX10_aHarm_75 ?_
          refine go_iadd dX10_aHarm_76 ?_
          refine go_iaload (hL.1 108 _ rfl) (b := 500) rfl (by decide) s263 dX10_aHarm_77 ?_
          refine go_bipush dX10_aHarm_78 (by decide) ?_
          refine go_vI (M := MX10_number) [vI ((458 + (5 * (D 108 401))) + 2), vI (D259 108 ((458 + (5 * (D 108 401))) + 1)), vI 99] [] mv_X10_181 (hL.1 107 _ rfl) rfl (by decide) ⟨Nat.le_of_ble_eq_true rfl, Nat.le_of_ble_eq_true rfl⟩ ⟨Nat.le_refl _, Nat.le_refl _⟩ rfl rfl (Nat.le_of_ble_eq_true rfl) dX10_aHarm_80 h (fun r264 D264 h => ?_)
          obtain ⟨s265, h⟩ := h
          refine go_if_ne 88 dX10_aHarm_83 (by decide) s265 (fun c266 => ?_) (fun c266 => ?_)
          · have h := h.1 c266
            refine go_iload_n 1 dX10_aHarm_88 rfl rfl ?_
            refine go_iconst dX10_aHarm_89 ?_
            refine go_icmp_eq 98 dX10_aHarm_90 (by decide) s6.2 (by decide) (fun c268 => ?_) (fun c268 => ?_)
            · have h := h.1 c268
              refine go_aload_n 0 dX10_aHarm_98 rfl rfl ?_
              refine go_iload_n 3 dX10_aHarm_99 rfl rfl ?_
              refine go_iconst dX10_aHarm_100 ?_
              refine go_iadd dX10_aHarm_101 ?_
              refine go_iload_n 1 dX10_aHarm_102 rfl rfl ?_
              refine go_iconst dX10_aHarm_103 ?_
              refine go_icmp_ne 111 dX10_aHarm_104 (by decide) s6.2 (by decide) (fun c270 => ?_) (fun c270 => ?_)
              · have h := h.1 c270
                refine go_iconst dX10_aHarm_111 ?_
                refine go_iload_n 1 dX10_aHarm_112 rfl rfl ?_
                refine go_iconst dX10_aHarm_113 ?_
                refine go_icmp_ne 122 dX10_aHarm_114 (by decide) s6.2 (by decide) (fun c272 => ?_) (fun c272 => ?_)
                · have h := h.1 c272
                  refine go_iconst dX10_aHarm_122 ?_
                  refine go_vI (M := MX10_number) [vI ((458 + (5 * (D 108 401))) + 1), vI 1, vI 3] [] mv_X10_181 (hL.1 107 _ rfl) rfl (by decide) ⟨Nat.le_of_ble_eq_true rfl, Nat.le_of_ble_eq_true rfl⟩ ⟨Nat.le_refl _, Nat.le_refl _⟩ rfl rfl (Nat.le_of_ble_eq_true rfl) dX10_aHarm_123 h (fun r274 D274 h => ?_)
                  obtain ⟨s275, h⟩ := h
                  refine go_if_ne 131 dX10_aHarm_126 (by decide) s275 (fun c276 => ?_) (fun c276 => ?_)
                  · have h := h.1 c276
                    refine go_aload_n 0 dX10_aHarm_131 rfl rfl ?_
                    refine go_bipush dX10_aHarm_132 (by decide) ?_
                    refine go_vI (M := MX10_wantWord) [vI 12] [] mv_X10_178 (hL.1 107 _ rfl) rfl (by decide) ⟨Nat.le_of_ble_eq_true rfl, Nat.le_of_ble_eq_true rfl⟩ ⟨Nat.le_refl _, Nat.le_refl _⟩ rfl rfl (Nat.le_of_ble_eq_true rfl) dX10_aHarm_134 h (fun r278 D278 h => ?_)
                    obtain ⟨s279, h⟩ := h
                    refine go_if_eq 175 dX10_aHarm_137 (by decide) s279 (fun c280 => ?_) (fun c280 => ?_)
                    · have h := h.1 c280
                      refine go_iconst dX10_aHarm_175 ?_
                      exact go_zreturn (Nat.le_refl _) (Nat.le_refl _) rfl (by decide) dX10_aHarm_176 h
                    · have h := h.2 c280
                      refine go_aload_n 0 dX10_aHarm_140 rfl rfl ?_
                      refine go_iload_n 3 dX10_aHarm_141 rfl rfl ?_
                      refine go_iconst dX10_aHarm_142 ?_
                      refine go_iadd dX10_aHarm_143 ?_
                      refine go_iconst dX10_aHarm_144 ?_
                      refine go_bipush dX10_aHarm_145 (by decide) ?_
                      refine go_vI (M := MX10_number) [vI ((458 + (5 * (D 108 401))) + 3), vI 0, vI 8] [] mv_X10_181 (hL.1 107 _ rfl) rfl (by decide) ⟨Nat.le_of_ble_eq_true rfl, Nat.le_of_ble_eq_true rfl⟩ ⟨Nat.le_refl _, Nat.le_refl _⟩ rfl rfl (Nat.le_of_ble_eq_true rfl) dX10_aHarm_147 h (fun r283 D283 h => ?_)
                      obtain ⟨s284, h⟩ := h
                      refine go_if_eq 175 dX10_aHarm_150 (by decide) s284 (fun c285 => ?_) (fun c285 => ?_)
                      · have h := h.1 c285
                        refine go_iconst dX10_aHarm_175 ?_
                        exact go_zreturn (Nat.le_refl _) (Nat.le_refl _) rfl (by decide) dX10_aHarm_176 h
                      · have h := h.2 c285
                        refine go_aload_n 0 dX10_aHarm_153 rfl rfl ?_
                        refine go_bipush dX10_aHarm_154 (by decide) ?_
                        refine go_vI (M := MX10_wantWord) [vI 13] [] mv_X10_178 (hL.1 107 _ rfl) rfl (by decide) ⟨Nat.le_of_ble_eq_true rfl, Nat.le_of_ble_eq_true rfl⟩ ⟨Nat.le_refl _, Nat.le_refl _⟩ rfl rfl (Nat.le_of_ble_eq_true rfl) dX10_aHarm_156 h (fun r288 D288 h => ?_)
                        obtain ⟨s289, h⟩ := h
                        refine go_if_eq 175 dX10_aHarm_159 (by decide) s289 (fun c290 => ?_) (fun c290 => ?_)
                        · have h := h.1 c290
                          refine go_iconst dX10_aHarm_175 ?_
                          exact go_zreturn (Nat.le_refl _) (Nat.le_refl _) rfl (by decide) dX10_aHarm_176 h
                        · have h := h.2 c290
                          refine go_aload_n 0 dX10_aHarm_162 rfl rfl ?_
                          refine go_iload_n 3 dX10_aHarm_163 rfl rfl ?_
                          refine go_iconst dX10_aHarm_164 ?_
                          refine go_iadd dX10_aHarm_165 ?_
                          refine go_iconst dX10_aHarm_166 ?_
                          refine go_bipush dX10_aHarm_167 (by decide) ?_
                          refine go_vI (M := MX10_number) [vI ((458 + (5 * (D 108 401))) + 4), vI 0, vI 16] [] mv_X10_181 (hL.1 107 _ rfl) rfl (by decide) ⟨Nat.le_of_ble_eq_true rfl, Nat.le_of_ble_eq_true rfl⟩ ⟨Nat.le_refl _, Nat.le_refl _⟩ rfl rfl (Nat.le_of_ble_eq_true rfl) dX10_aHarm_169 h (fun r293 D293 h => ?_)
                          obtain ⟨s294, h⟩ := h
                          refine go_if_ne 177 dX10_aHarm_172 (by decide) s294 (fun c295 => ?_) (fun c295 => ?_)
                          · have h := h.1 c295
                            obtain ⟨s296, h⟩ := h
                            refine go_aload_n 0 dX10_aHarm_177 rfl rfl ?_
                            refine go_getR 0 f_X10_7 rfl (hL.1 107 _ rfl) (hL.2.1 107 0 _ rfl (by decide)) dX10_aHarm_178 ?_
                            refine go_sipush dX10_aHarm_181 (by decide) ?_
                            refine go_dup2 rfl rfl dX10_aHarm_184 ?_
                            refine go_iaload (hL.1 108 _ rfl) (b := 500) rfl (by decide) (by decide) dX10_aHarm_185 ?_
                            refine go_iconst dX10_aHarm_186 ?_
                            refine go_iadd dX10_aHarm_187 ?_
                            refine go_iastore (hL.1 108 _ rfl) (b := 500) rfl (by decide) (by decide) s296 dX10_aHarm_188 ?_
                            refine go_iconst dX10_aHarm_189 ?_
                            exact go_zreturn (Nat.le_refl _) (Nat.le_refl _) rfl (by decide) dX10_aHarm_190 h
                          · have h := h.2 c295
                            refine go_iconst dX10_aHarm_175 ?_
                            exact go_zreturn (Nat.le_refl _) (Nat.le_refl _) rfl (by decide) dX10_aHarm_176 h
                  · have h := h.2 c276
                    refine go_iconst dX10_aHarm_129 ?_
                    exact go_zreturn (Nat.le_refl _) (Nat.le_refl _) rfl (by decide) dX10_aHarm_130 h
                · have h := h.2 c272
                  refine go_bipush dX10_aHarm_117 (by decide) ?_
                  refine go_goto 123 dX10_aHarm_119 (by decide) ?_
                  refine go_vI (M := MX10_number) [vI ((458 + (5 * (D 108 401))) + 1), vI 1, vI 99] [] mv_X10_181 (hL.1 107 _ rfl) rfl (by decide) ⟨Nat.le_of_ble_eq_true rfl, Nat.le_of_ble_eq_true rfl⟩ ⟨Nat.le_refl _, Nat.le_refl _⟩ rfl rfl (Nat.le_of_ble_eq_true rfl) dX10_aHarm_123 h (fun r300 D300 h => ?_)
                  obtain ⟨s301, h⟩ := h
                  refine go_if_ne 131 dX10_aHarm_126 (by decide) s301 (fun c302 => ?_) (fun c302 => ?_)
                  · have h := h.1 c302
                    refine go_aload_n 0 dX10_aHarm_131 rfl rfl ?_
                    refine go_bipush dX10_aHarm_132 (by decide) ?_
                    refine go_vI (M := MX10_wantWord) [vI 12] [] mv_X10_178 (hL.1 107 _ rfl) rfl (by decide) ⟨Nat.le_of_ble_eq_true rfl, Nat.le_of_ble_eq_true rfl⟩ ⟨Nat.le_refl _, Nat.le_refl _⟩ rfl rfl (Nat.le_of_ble_eq_true rfl) dX10_aHarm_134 h (fun r304 D304 h => ?_)
                    obtain ⟨s305, h⟩ := h
                    refine go_if_eq 175 dX10_aHarm_137 (by decide) s305 (fun c306 => ?_) (fun c306 => ?_)
                    · have h := h.1 c306
                      refine go_iconst dX10_aHarm_175 ?_
                      exact go_zreturn (Nat.le_refl _) (Nat.le_refl _) rfl (by decide) dX10_aHarm_176 h
                    · have h := h.2 c306
                      refine go_aload_n 0 dX10_aHarm_140 rfl rfl ?_
                      refine go_iload_n 3 dX10_aHarm_141 rfl rfl ?_
                      refine go_iconst dX10_aHarm_142 ?_
                      refine go_iadd dX10_aHarm_143 ?_
                      refine go_iconst dX10_aHarm_144 ?_
                      refine go_bipush dX10_aHarm_145 (by decide) ?_
                      refine go_vI (M := MX10_number) [vI ((458 + (5 * (D 108 401))) + 3), vI 0, vI 8] [] mv_X10_181 (hL.1 107 _ rfl) rfl (by decide) ⟨Nat.le_of_ble_eq_true rfl, Nat.le_of_ble_eq_true rfl⟩ ⟨Nat.le_refl _, Nat.le_refl _⟩ rfl rfl (Nat.le_of_ble_eq_true rfl) dX10_aHarm_147 h (fun r309 D309 h => ?_)
                      obtain ⟨s310, h⟩ := h
                      refine go_if_eq 175 dX10_aHarm_150 (by decide) s310 (fun c311 => ?_) (fun c311 => ?_)
                      · have h := h.1 c311
                        refine go_iconst dX10_aHarm_175 ?_
                        exact go_zreturn (Nat.le_refl _) (Nat.le_refl _) rfl (by decide) dX10_aHarm_176 h
                      · have h := h.2 c311
                        refine go_aload_n 0 dX10_aHarm_153 rfl rfl ?_
                        refine go_bipush dX10_aHarm_154 (by decide) ?_
                        refine go_vI (M := MX10_wantWord) [vI 13] [] mv_X10_178 (hL.1 107 _ rfl) rfl (by decide) ⟨Nat.le_of_ble_eq_true rfl, Nat.le_of_ble_eq_true rfl⟩ ⟨Nat.le_refl _, Nat.le_refl _⟩ rfl rfl (Nat.le_of_ble_eq_true rfl) dX10_aHarm_156 h (fun r314 D314 h => ?_)
                        obtain ⟨s315, h⟩ := h
                        refine go_if_eq 175 dX10_aHarm_159 (by decide) s315 (fun c316 => ?_) (fun c316 => ?_)
                        · have h := h.1 c316
                          refine go_iconst dX10_aHarm_175 ?_
                          exact go_zreturn (Nat.le_refl _) (Nat.le_refl _) rfl (by decide) dX10_aHarm_176 h
                        · have h := h.2 c316
                          refine go_aload_n 0 dX10_aHarm_162 rfl rfl ?_
                          refine go_iload_n 3 dX10_aHarm_163 rfl rfl ?_
                          refine go_iconst dX10_aHarm_164 ?_
                          refine go_iadd dX10_aHarm_165 ?_
                          refine go_iconst dX10_aHarm_166 ?_
                          refine go_bipush dX10_aHarm_167 (by decide) ?_
                          refine go_vI (M := MX10_number) [vI ((458 + (5 * (D 108 401))) + 4), vI 0, vI 16] [] mv_X10_181 (hL.1 107 _ rfl) rfl (by decide) ⟨Nat.le_of_ble_eq_true rfl, Nat.le_of_ble_eq_true rfl⟩ ⟨Nat.le_refl _, Nat.le_refl _⟩ rfl rfl (Nat.le_of_ble_eq_true rfl) dX10_aHarm_169 h (fun r319 D319 h => ?_)
                          obtain ⟨s320, h⟩ := h
                          refine go_if_ne 177 dX10_aHarm_172 (by decide) s320 (fun c321 => ?_) (fun c321 => ?_)
                          · have h := h.1 c321
                            obtain ⟨s322, h⟩ := h
                            refine go_aload_n 0 dX10_aHarm_177 rfl rfl ?_
                            refine go_getR 0 f_X10_7 rfl (hL.1 107 _ rfl) (hL.2.1 107 0 _ rfl (by decide)) dX10_aHarm_178 ?_
                            refine go_sipush dX10_aHarm_181 (by decide) ?_
                            refine go_dup2 rfl rfl dX10_aHarm_184 ?_
                            refine go_iaload (hL.1 108 _ rfl) (b := 500) rfl (by decide) (by decide) dX10_aHarm_185 ?_
                            refine go_iconst dX10_aHarm_186 ?_
                            refine go_iadd dX10_aHarm_187 ?_
                            refine go_iastore (hL.1 108 _ rfl) (b := 500) rfl (by decide) (by decide) s322 dX10_aHarm_188 ?_
                            refine go_iconst dX10_aHarm_189 ?_
                            exact go_zreturn (Nat.le_refl _) (Nat.le_refl _) rfl (by decide) dX10_aHarm_190 h
                          · have h := h.2 c321
                            refine go_iconst dX10_aHarm_175 ?_
                            exact go_zreturn (Nat.le_refl _) (Nat.le_refl _) rfl (by decide) dX10_aHarm_176 h
                  · have h := h.2 c302
                    refine go_iconst dX10_aHarm_129 ?_
                    exact go_zreturn (Nat.le_refl _) (Nat.le_refl _) rfl (by decide) dX10_aHarm_130 h
              · have h := h.2 c270
                refine go_iconst dX10_aHarm_107 ?_
                refine go_goto 112 dX10_aHarm_108 (by decide) ?_
                refine go_iload_n 1 dX10_aHarm_112 rfl rfl ?_
                refine go_iconst dX10_aHarm_113 ?_
                refine go_icmp_ne 122 dX10_aHarm_114 (by decide) s6.2 (by decide) (fun c326 => ?_) (fun c326 => ?_)
                · have h := h.1 c326
                  refine go_iconst dX10_aHarm_122 ?_
                  refine go_vI (M := MX10_number) [vI ((458 + (5 * (D 108 401))) + 1), vI 0, vI 3] [] mv_X10_181 (hL.1 107 _ rfl) rfl (by decide) ⟨Nat.le_of_ble_eq_true rfl, Nat.le_of_ble_eq_true rfl⟩ ⟨Nat.le_refl _, Nat.le_refl _⟩ rfl rfl (Nat.le_of_ble_eq_true rfl) dX10_aHarm_123 h (fun r328 D328 h => ?_)
                  obtain ⟨s329, h⟩ := h
                  refine go_if_ne 131 dX10_aHarm_126 (by decide) s329 (fun c330 => ?_) (fun c330 => ?_)
                  · have h := h.1 c330
                    refine go_aload_n 0 dX10_aHarm_131 rfl rfl ?_
                    refine go_bipush dX10_aHarm_132 (by decide) ?_
                    refine go_vI (M := MX10_wantWord) [vI 12] [] mv_X10_178 (hL.1 107 _ rfl) rfl (by decide) ⟨Nat.le_of_ble_eq_true rfl, Nat.le_of_ble_eq_true rfl⟩ ⟨Nat.le_refl _, Nat.le_refl _⟩ rfl rfl (Nat.le_of_ble_eq_true rfl) dX10_aHarm_134 h (fun r332 D332 h => ?_)
                    obtain ⟨s333, h⟩ := h
                    refine go_if_eq 175 dX10_aHarm_137 (by decide) s333 (fun c334 => ?_) (fun c334 => ?_)
                    · have h := h.1 c334
                      refine go_iconst dX10_aHarm_175 ?_
                      exact go_zreturn (Nat.le_refl _) (Nat.le_refl _) rfl (by decide) dX10_aHarm_176 h
                    · have h := h.2 c334
                      refine go_aload_n 0 dX10_aHarm_140 rfl rfl ?_
                      refine go_iload_n 3 dX10_aHarm_141 rfl rfl ?_
                      refine go_iconst dX10_aHarm_142 ?_
                      refine go_iadd dX10_aHarm_143 ?_
                      refine go_iconst dX10_aHarm_144 ?_
                      refine go_bipush dX10_aHarm_145 (by decide) ?_
                      refine go_vI (M := MX10_number) [vI ((458 + (5 * (D 108 401))) + 3), vI 0, vI 8] [] mv_X10_181 (hL.1 107 _ rfl) rfl (by decide) ⟨Nat.le_of_ble_eq_true rfl, Nat.le_of_ble_eq_true rfl⟩ ⟨Nat.le_refl _, Nat.le_refl _⟩ rfl rfl (Nat.le_of_ble_eq_true rfl) dX10_aHarm_147 h (fun r337 D337 h => ?_)
                      obtain ⟨s338, h⟩ := h
                      refine go_if_eq 175 dX10_aHarm_150 (by decide) s338 (fun c339 => ?_) (fun c339 => ?_)
                      · have h := h.1 c339
                        refine go_iconst dX10_aHarm_175 ?_
                        exact go_zreturn (Nat.le_refl _) (Nat.le_refl _) rfl (by decide) dX10_aHarm_176 h
                      · have h := h.2 c339
                        refine go_aload_n 0 dX10_aHarm_153 rfl rfl ?_
                        refine go_bipush dX10_aHarm_154 (by decide) ?_
                        refine go_vI (M := MX10_wantWord) [vI 13] [] mv_X10_178 (hL.1 107 _ rfl) rfl (by decide) ⟨Nat.le_of_ble_eq_true rfl, Nat.le_of_ble_eq_true rfl⟩ ⟨Nat.le_refl _, Nat.le_refl _⟩ rfl rfl (Nat.le_of_ble_eq_true rfl) dX10_aHarm_156 h (fun r342 D342 h => ?_)
                        obtain ⟨s343, h⟩ := h
                        refine go_if_eq 175 dX10_aHarm_159 (by decide) s343 (fun c344 => ?_) (fun c344 => ?_)
                        · have h := h.1 c344
                          refine go_iconst dX10_aHarm_175 ?_
                          exact go_zreturn (Nat.le_refl _) (Nat.le_refl _) rfl (by decide) dX10_aHarm_176 h
                        · have h := h.2 c344
                          refine go_aload_n 0 dX10_aHarm_162 rfl rfl ?_
                          refine go_iload_n 3 dX10_aHarm_163 rfl rfl ?_
                          refine go_iconst dX10_aHarm_164 ?_
                          refine go_iadd dX10_aHarm_165 ?_
                          refine go_iconst dX10_aHarm_166 ?_
                          refine go_bipush dX10_aHarm_167 (by decide) ?_
                          refine go_vI (M := MX10_number) [vI ((458 + (5 * (D 108 401))) + 4), vI 0, vI 16] [] mv_X10_181 (hL.1 107 _ rfl) rfl (by decide) ⟨Nat.le_of_ble_eq_true rfl, Nat.le_of_ble_eq_true rfl⟩ ⟨Nat.le_refl _, Nat.le_refl _⟩ rfl rfl (Nat.le_of_ble_eq_true rfl) dX10_aHarm_169 h (fun r347 D347 h => ?_)
                          obtain ⟨s348, h⟩ := h
                          refine go_if_ne 177 dX10_aHarm_172 (by decide) s348 (fun c349 => ?_) (fun c349 => ?_)
                          · have h := h.1 c349
                            obtain ⟨s350, h⟩ := h
                            refine go_aload_n 0 dX10_aHarm_177 rfl rfl ?_
                            refine go_getR 0 f_X10_7 rfl (hL.1 107 _ rfl) (hL.2.1 107 0 _ rfl (by decide)) dX10_aHarm_178 ?_
                            refine go_sipush dX10_aHarm_181 (by decide) ?_
                            refine go_dup2 rfl rfl dX10_aHarm_184 ?_
                            refine go_iaload (hL.1 108 _ rfl) (b := 500) rfl (by decide) (by decide) dX10_aHarm_185 ?_
                            refine go_iconst dX10_aHarm_186 ?_
                            refine go_iadd dX10_aHarm_187 ?_
                            refine go_iastore (hL.1 108 _ rfl) (b := 500) rfl (by decide) (by decide) s350 dX10_aHarm_188 ?_
                            refine go_iconst dX10_aHarm_189 ?_
                            exact go_zreturn (Nat.le_refl _) (Nat.le_refl _) rfl (by decide) dX10_aHarm_190 h
                          · have h := h.2 c349
                            refine go_iconst dX10_aHarm_175 ?_
                            exact go_zreturn (Nat.le_refl _) (Nat.le_refl _) rfl (by decide) dX10_aHarm_176 h
                  · have h := h.2 c330
                    refine go_iconst dX10_aHarm_129 ?_
                    exact go_zreturn (Nat.le_refl _) (Nat.le_refl _) rfl (by decide) dX10_aHarm_130 h
                · have h := h.2 c326
                  refine go_bipush dX10_aHarm_117 (by decide) ?_
                  refine go_goto 123 dX10_aHarm_119 (by decide) ?_
                  refine go_vI (M := MX10_number) [vI ((458 + (5 * (D 108 401))) + 1), vI 0, vI 99] [] mv_X10_181 (hL.1 107 _ rfl) rfl (by decide) ⟨Nat.le_of_ble_eq_true rfl, Nat.le_of_ble_eq_true rfl⟩ ⟨Nat.le_refl _, Nat.le_refl _⟩ rfl rfl (Nat.le_of_ble_eq_true rfl) dX10_aHarm_123 h (fun r354 D354 h => ?_)
                  obtain ⟨s355, h⟩ := h
                  refine go_if_ne 131 dX10_aHarm_126 (by decide) s355 (fun c356 => ?_) (fun c356 => ?_)
                  · have h := h.1 c356
                    refine go_aload_n 0 dX10_aHarm_131 rfl rfl ?_
                    refine go_bipush dX10_aHarm_132 (by decide) ?_
                    refine go_vI (M := MX10_wantWord) [vI 12] [] mv_X10_178 (hL.1 107 _ rfl) rfl (by decide) ⟨Nat.le_of_ble_eq_true rfl, Nat.le_of_ble_eq_true rfl⟩ ⟨Nat.le_refl _, Nat.le_refl _⟩ rfl rfl (Nat.le_of_ble_eq_true rfl) dX10_aHarm_134 h (fun r358 D358 h => ?_)
                    obtain ⟨s359, h⟩ := h
                    refine go_if_eq 175 dX10_aHarm_137 (by decide) s359 (fun c360 => ?_) (fun c360 => ?_)
                    · have h := h.1 c360
                      refine go_iconst dX10_aHarm_175 ?_
                      exact go_zreturn (Nat.le_refl _) (Nat.le_refl _) rfl (by decide) dX10_aHarm_176 h
                    · have h := h.2 c360
                      refine go_aload_n 0 dX10_aHarm_140 rfl rfl ?_
                      refine go_iload_n 3 dX10_aHarm_141 rfl rfl ?_
                      refine go_iconst dX10_aHarm_142 ?_
                      refine go_iadd dX10_aHarm_143 ?_
                      refine go_iconst dX10_aHarm_144 ?_
                      refine go_bipush dX10_aHarm_145 (by decide) ?_
                      refine go_vI (M := MX10_number) [vI ((458 + (5 * (D 108 401))) + 3), vI 0, vI 8] [] mv_X10_181 (hL.1 107 _ rfl) rfl (by decide) ⟨Nat.le_of_ble_eq_true rfl, Nat.le_of_ble_eq_true rfl⟩ ⟨Nat.le_refl _, Nat.le_refl _⟩ rfl rfl (Nat.le_of_ble_eq_true rfl) dX10_aHarm_147 h (fun r363 D363 h => ?_)
                      obtain ⟨s364, h⟩ := h
                      refine go_if_eq 175 dX10_aHarm_150 (by decide) s364 (fun c365 => ?_) (fun c365 => ?_)
                      · have h := h.1 c365
                        refine go_iconst dX10_aHarm_175 ?_
                        exact go_zreturn (Nat.le_refl _) (Nat.le_refl _) rfl (by decide) dX10_aHarm_176 h
                      · have h := h.2 c365
                        refine go_aload_n 0 dX10_aHarm_153 rfl rfl ?_
                        refine go_bipush dX10_aHarm_154 (by decide) ?_
                        refine go_vI (M := MX10_wantWord) [vI 13] [] mv_X10_178 (hL.1 107 _ rfl) rfl (by decide) ⟨Nat.le_of_ble_eq_true rfl, Nat.le_of_ble_eq_true rfl⟩ ⟨Nat.le_refl _, Nat.le_refl _⟩ rfl rfl (Nat.le_of_ble_eq_true rfl) dX10_aHarm_156 h (fun r368 D368 h => ?_)
                        obtain ⟨s369, h⟩ := h
                        refine go_if_eq 175 dX10_aHarm_159 (by decide) s369 (fun c370 => ?_) (fun c370 => ?_)
                        · have h := h.1 c370
                          refine go_iconst dX10_aHarm_175 ?_
                          exact go_zreturn (Nat.le_refl _) (Nat.le_refl _) rfl (by decide) dX10_aHarm_176 h
                        · have h := h.2 c370
                          refine go_aload_n 0 dX10_aHarm_162 rfl rfl ?_
                          refine go_iload_n 3 dX10_aHarm_163 rfl rfl ?_
                          refine go_iconst dX10_aHarm_164 ?_
                          refine go_iadd dX10_aHarm_165 ?_
                          refine go_iconst dX10_aHarm_166 ?_
                          refine go_bipush dX10_aHarm_167 (by decide) ?_
                          refine go_vI (M := MX10_number) [vI ((458 + (5 * (D 108 401))) + 4), vI 0, vI 16] [] mv_X10_181 (hL.1 107 _ rfl) rfl (by decide) ⟨Nat.le_of_ble_eq_true rfl, Nat.le_of_ble_eq_true rfl⟩ ⟨Nat.le_refl _, Nat.le_refl _⟩ rfl rfl (Nat.le_of_ble_eq_true rfl) dX10_aHarm_169 h (fun r373 D373 h => ?_)
                          obtain ⟨s374, h⟩ := h
                          refine go_if_ne 177 dX10_aHarm_172 (by decide) s374 (fun c375 => ?_) (fun c375 => ?_)
                          · have h := h.1 c375
                            obtain ⟨s376, h⟩ := h
                            refine go_aload_n 0 dX10_aHarm_177 rfl rfl ?_
                            refine go_getR 0 f_X10_7 rfl (hL.1 107 _ rfl) (hL.2.1 107 0 _ rfl (by decide)) dX10_aHarm_178 ?_
                            refine go_sipush dX10_aHarm_181 (by decide) ?_
                            refine go_dup2 rfl rfl dX10_aHarm_184 ?_
                            refine go_iaload (hL.1 108 _ rfl) (b := 500) rfl (by decide) (by decide) dX10_aHarm_185 ?_
                            refine go_iconst dX10_aHarm_186 ?_
                            refine go_iadd dX10_aHarm_187 ?_
                            refine go_iastore (hL.1 108 _ rfl) (b := 500) rfl (by decide) (by decide) s376 dX10_aHarm_188 ?_
                            refine go_iconst dX10_aHarm_189 ?_
                            exact go_zreturn (Nat.le_refl _) (Nat.le_refl _) rfl (by decide) dX10_aHarm_190 h
                          · have h := h.2 c375
                            refine go_iconst dX10_aHarm_175 ?_
                            exact go_zreturn (Nat.le_refl _) (Nat.le_refl _) rfl (by decide) dX10_aHarm_176 h
                  · have h := h.2 c356
                    refine go_iconst dX10_aHarm_129 ?_
                    exact go_zreturn (Nat.le_refl _) (Nat.le_refl _) rfl (by decide) dX10_aHarm_130 h
            · have h := h.2 c268
              refine go_iload_n 1 dX10_aHarm_93 rfl rfl ?_
              refine go_iconst dX10_aHarm_94 ?_
              refine go_icmp_ne 131 dX10_aHarm_95 (by decide) s6.2 (by decide) (fun c380 => ?_) (fun c380 => ?_)
              · have h := h.1 c380
                refine go_aload_n 0 dX10_aHarm_131 rfl rfl ?_
                refine go_bipush dX10_aHarm_132 (by decide) ?_
                refine go_vI (M := MX10_wantWord) [vI 12] [] mv_X10_178 (hL.1 107 _ rfl) rfl (by decide) ⟨Nat.le_of_ble_eq_true rfl, Nat.le_of_ble_eq_true rfl⟩ ⟨Nat.le_refl _, Nat.le_refl _⟩ rfl rfl (Nat.le_of_ble_eq_true rfl) dX10_aHarm_134 h (fun r382 D382 h => ?_)
                obtain ⟨s383, h⟩ := h
                refine go_if_eq 175 dX10_aHarm_137 (by decide) s383 (fun c384 => ?_) (fun c384 => ?_)
                · have h := h.1 c384
                  refine go_iconst dX10_aHarm_175 ?_
                  exact go_zreturn (Nat.le_refl _) (Nat.le_refl _) rfl (by decide) dX10_aHarm_176 h
                · have h := h.2 c384
                  refine go_aload_n 0 dX10_aHarm_140 rfl rfl ?_
                  refine go_iload_n 3 dX10_aHarm_141 rfl rfl ?_
                  refine go_iconst dX10_aHarm_142 ?_
                  refine go_iadd dX10_aHarm_143 ?_
                  refine go_iconst dX10_aHarm_144 ?_
                  refine go_bipush dX10_aHarm_145 (by decide) ?_
                  refine go_vI (M := MX10_number) [vI ((458 + (5 * (D 108 401))) + 3), vI 0, vI 8] [] mv_X10_181 (hL.1 107 _ rfl) rfl (by decide) ⟨Nat.le_of_ble_eq_true rfl, Nat.le_of_ble_eq_true rfl⟩ ⟨Nat.le_refl _, Nat.le_refl _⟩ rfl rfl (Nat.le_of_ble_eq_true rfl) dX10_aHarm_147 h (fun r387 D387 h => ?_)
                  obtain ⟨s388, h⟩ := h
                  refine go_if_eq 175 dX10_aHarm_150 (by decide) s388 (fun c389 => ?_) (fun c389 => ?_)
                  · have h := h.1 c389
                    refine go_iconst dX10_aHarm_175 ?_
                    exact go_zreturn (Nat.le_refl _) (Nat.le_refl _) rfl (by decide) dX10_aHarm_176 h
                  · have h := h.2 c389
                    refine go_aload_n 0 dX10_aHarm_153 rfl rfl ?_
                    refine go_bipush dX10_aHarm_154 (by decide) ?_
                    refine go_vI (M := MX10_wantWord) [vI 13] [] mv_X10_178 (hL.1 107 _ rfl) rfl (by decide) ⟨Nat.le_of_ble_eq_true rfl, Nat.le_of_ble_eq_true rfl⟩ ⟨Nat.le_refl _, Nat.le_refl _⟩ rfl rfl (Nat.le_of_ble_eq_true rfl) dX10_aHarm_156 h (fun r392 D392 h => ?_)
                    obtain ⟨s393, h⟩ := h
                    refine go_if_eq 175 dX10_aHarm_159 (by decide) s393 (fun c394 => ?_) (fun c394 => ?_)
                    · have h := h.1 c394
                      refine go_iconst dX10_aHarm_175 ?_
                      exact go_zreturn (Nat.le_refl _) (Nat.le_refl _) rfl (by decide) dX10_aHarm_176 h
                    · have h := h.2 c394
                      refine go_aload_n 0 dX10_aHarm_162 rfl rfl ?_
                      refine go_iload_n 3 dX10_aHarm_163 rfl rfl ?_
                      refine go_iconst dX10_aHarm_164 ?_
                      refine go_iadd dX10_aHarm_165 ?_
                      refine go_iconst dX10_aHarm_166 ?_
                      refine go_bipush dX10_aHarm_167 (by decide) ?_
                      refine go_vI (M := MX10_number) [vI ((458 + (5 * (D 108 401))) + 4), vI 0, vI 16] [] mv_X10_181 (hL.1 107 _ rfl) rfl (by decide) ⟨Nat.le_of_ble_eq_true rfl, Nat.le_of_ble_eq_true rfl⟩ ⟨Nat.le_refl _, Nat.le_refl _⟩ rfl rfl (Nat.le_of_ble_eq_true rfl) dX10_aHarm_169 h (fun r397 D397 h => ?_)
                      obtain ⟨s398, h⟩ := h
                      refine go_if_ne 177 dX10_aHarm_172 (by decide) s398 (fun c399 => ?_) (fun c399 => ?_)
                      · have h := h.1 c399
                        obtain ⟨s400, h⟩ := h
                        refine go_aload_n 0 dX10_aHarm_177 rfl rfl ?_
                        refine go_getR 0 f_X10_7 rfl (hL.1 107 _ rfl) (hL.2.1 107 0 _ rfl (by decide)) dX10_aHarm_178 ?_
                        refine go_sipush dX10_aHarm_181 (by decide) ?_
                        refine go_dup2 rfl rfl dX10_aHarm_184 ?_
                        refine go_iaload (hL.1 108 _ rfl) (b := 500) rfl (by decide) (by decide) dX10_aHarm_185 ?_
                        refine go_iconst dX10_aHarm_186 ?_
                        refine go_iadd dX10_aHarm_187 ?_
                        refine go_iastore (hL.1 108 _ rfl) (b := 500) rfl (by decide) (by decide) s400 dX10_aHarm_188 ?_
                        refine go_iconst dX10_aHarm_189 ?_
                        exact go_zreturn (Nat.le_refl _) (Nat.le_refl _) rfl (by decide) dX10_aHarm_190 h
                      · have h := h.2 c399
                        refine go_iconst dX10_aHarm_175 ?_
                        exact go_zreturn (Nat.le_refl _) (Nat.le_refl _) rfl (by decide) dX10_aHarm_176 h
              · have h := h.2 c380
                refine go_aload_n 0 dX10_aHarm_98 rfl rfl ?_
                refine go_iload_n 3 dX10_aHarm_99 rfl rfl ?_
                refine go_iconst dX10_aHarm_100 ?_
                refine go_iadd dX10_aHarm_101 ?_
                refine go_iload_n 1 dX10_aHarm_102 rfl rfl ?_
                refine go_iconst dX10_aHarm_103 ?_
                refine go_icmp_ne 111 dX10_aHarm_104 (by decide) s6.2 (by decide) (fun c403 => ?_) (fun c403 => ?_)
                · have h := h.1 c403
                  refine go_iconst dX10_aHarm_111 ?_
                  refine go_iload_n 1 dX10_aHarm_112 rfl rfl ?_
                  refine go_iconst dX10_aHarm_113 ?_
                  refine go_icmp_ne 122 dX10_aHarm_114 (by decide) s6.2 (by decide) (fun c405 => ?_) (fun c405 => ?_)
                  · have h := h.1 c405
                    refine go_iconst dX10_aHarm_122 ?_
                    refine go_vI (M := MX10_number) [vI ((458 + (5 * (D 108 401))) + 1), vI 1, vI 3] [] mv_X10_181 (hL.1 107 _ rfl) rfl (by decide) ⟨Nat.le_of_ble_eq_true rfl, Nat.le_of_ble_eq_true rfl⟩ ⟨Nat.le_refl _, Nat.le_refl _⟩ rfl rfl (Nat.le_of_ble_eq_true rfl) dX10_aHarm_123 h (fun r407 D407 h => ?_)
                    obtain ⟨s408, h⟩ := h
                    refine go_if_ne 131 dX10_aHarm_126 (by decide) s408 (fun c409 => ?_) (fun c409 => ?_)
                    · have h := h.1 c409
                      refine go_aload_n 0 dX10_aHarm_131 rfl rfl ?_
                      refine go_bipush dX10_aHarm_132 (by decide) ?_
                      refine go_vI (M := MX10_wantWord) [vI 12] [] mv_X10_178 (hL.1 107 _ rfl) rfl (by decide) ⟨Nat.le_of_ble_eq_true rfl, Nat.le_of_ble_eq_true rfl⟩ ⟨Nat.le_refl _, Nat.le_refl _⟩ rfl rfl (Nat.le_of_ble_eq_true rfl) dX10_aHarm_134 h (fun r411 D411 h => ?_)
                      obtain ⟨s412, h⟩ := h
                      refine go_if_eq 175 dX10_aHarm_137 (by decide) s412 (fun c413 => ?_) (fun c413 => ?_)
                      · have h := h.1 c413
                        refine go_iconst dX10_aHarm_175 ?_
                        exact go_zreturn (Nat.le_refl _) (Nat.le_refl _) rfl (by decide) dX10_aHarm_176 h
                      · have h := h.2 c413
                        refine go_aload_n 0 dX10_aHarm_140 rfl rfl ?_
                        refine go_iload_n 3 dX10_aHarm_141 rfl rfl ?_
                        refine go_iconst dX10_aHarm_142 ?_
                        refine go_iadd dX10_aHarm_143 ?_
                        refine go_iconst dX10_aHarm_144 ?_
                        refine go_bipush dX10_aHarm_145 (by decide) ?_
                        refine go_vI (M := MX10_number) [vI ((458 + (5 * (D 108 401))) + 3), vI 0, vI 8] [] mv_X10_181 (hL.1 107 _ rfl) rfl (by decide) ⟨Nat.le_of_ble_eq_true rfl, Nat.le_of_ble_eq_true rfl⟩ ⟨Nat.le_refl _, Nat.le_refl _⟩ rfl rfl (Nat.le_of_ble_eq_true rfl) dX10_aHarm_147 h (fun r416 D416 h => ?_)
                        obtain ⟨s417, h⟩ := h
                        refine go_if_eq 175 dX10_aHarm_150 (by decide) s417 (fun c418 => ?_) (fun c418 => ?_)
                        · have h := h.1 c418
                          refine go_iconst dX10_aHarm_175 ?_
                          exact go_zreturn (Nat.le_refl _) (Nat.le_refl _) rfl (by decide) dX10_aHarm_176 h
                        · have h := h.2 c418
                          refine go_aload_n 0 dX10_aHarm_153 rfl rfl ?_
                          refine go_bipush dX10_aHarm_154 (by decide) ?_
                          refine go_vI (M := MX10_wantWord) [vI 13] [] mv_X10_178 (hL.1 107 _ rfl) rfl (by decide) ⟨Nat.le_of_ble_eq_true rfl, Nat.le_of_ble_eq_true rfl⟩ ⟨Nat.le_refl _, Nat.le_refl _⟩ rfl rfl (Nat.le_of_ble_eq_true rfl) dX10_aHarm_156 h (fun r421 D421 h => ?_)
                          obtain ⟨s422, h⟩ := h
                          refine go_if_eq 175 dX10_aHarm_159 (by decide) s422 (fun c423 => ?_) (fun c423 => ?_)
                          · have h := h.1 c423
                            refine go_iconst dX10_aHarm_175 ?_
                            exact go_zreturn (Nat.le_refl _) (Nat.le_refl _) rfl (by decide) dX10_aHarm_176 h
                          · have h := h.2 c423
                            refine go_aload_n 0 dX10_aHarm_162 rfl rfl ?_
                            refine go_iload_n 3 dX10_aHarm_163 rfl rfl ?_
                            refine go_iconst dX10_aHarm_164 ?_
                            refine go_iadd dX10_aHarm_165 ?_
                            refine go_iconst dX10_aHarm_166 ?_
                            refine go_bipush dX10_aHarm_167 (by decide) ?_
                            refine go_vI (M := MX10_number) [vI ((458 + (5 * (D 108 401))) + 4), vI 0, vI 16] [] mv_X10_181 (hL.1 107 _ rfl) rfl (by decide) ⟨Nat.le_of_ble_eq_true rfl, Nat.le_of_ble_eq_true rfl⟩ ⟨Nat.le_refl _, Nat.le_refl _⟩ rfl rfl (Nat.le_of_ble_eq_true rfl) dX10_aHarm_169 h (fun r426 D426 h => ?_)
                            obtain ⟨s427, h⟩ := h
                            refine go_if_ne 177 dX10_aHarm_172 (by decide) s427 (fun c428 => ?_) (fun c428 => ?_)
                            · have h := h.1 c428
                              obtain ⟨s429, h⟩ := h
                              refine go_aload_n 0 dX10_aHarm_177 rfl rfl ?_
                              refine go_getR 0 f_X10_7 rfl (hL.1 107 _ rfl) (hL.2.1 107 0 _ rfl (by decide)) dX10_aHarm_178 ?_
                              refine go_sipush dX10_aHarm_181 (by decide) ?_
                              refine go_dup2 rfl rfl dX10_aHarm_184 ?_
                              refine go_iaload (hL.1 108 _ rfl) (b := 500) rfl (by decide) (by decide) dX10_aHarm_185 ?_
                              refine go_iconst dX10_aHarm_186 ?_
                              refine go_iadd dX10_aHarm_187 ?_
                              refine go_iastore (hL.1 108 _ rfl) (b := 500) rfl (by decide) (by decide) s429 dX10_aHarm_188 ?_
                              refine go_iconst dX10_aHarm_189 ?_
                              exact go_zreturn (Nat.le_refl _) (Nat.le_refl _) rfl (by decide) dX10_aHarm_190 h
                            · have h := h.2 c428
                              refine go_iconst dX10_aHarm_175 ?_
                              exact go_zreturn (Nat.le_refl _) (Nat.le_refl _) rfl (by decide) dX10_aHarm_176 h
                    · have h := h.2 c409
                      refine go_iconst dX10_aHarm_129 ?_
                      exact go_zreturn (Nat.le_refl _) (Nat.le_refl _) rfl (by decide) dX10_aHarm_130 h
                  · have h := h.2 c405
                    refine go_bipush dX10_aHarm_117 (by decide) ?_
                    refine go_goto 123 dX10_aHarm_119 (by decide) ?_
                    refine go_vI (M := MX10_number) [vI ((458 + (5 * (D 108 401))) + 1), vI 1, vI 99] [] mv_X10_181 (hL.1 107 _ rfl) rfl (by decide) ⟨Nat.le_of_ble_eq_true rfl, Nat.le_of_ble_eq_true rfl⟩ ⟨Nat.le_refl _, Nat.le_refl _⟩ rfl rfl (Nat.le_of_ble_eq_true rfl) dX10_aHarm_123 h (fun r433 D433 h => ?_)
                    obtain ⟨s434, h⟩ := h
                    refine go_if_ne 131 dX10_aHarm_126 (by decide) s434 (fun c435 => ?_) (fun c435 => ?_)
                    · have h := h.1 c435
                      refine go_aload_n 0 dX10_aHarm_131 rfl rfl ?_
                      refine go_bipush dX10_aHarm_132 (by decide) ?_
                      refine go_vI (M := MX10_wantWord) [vI 12] [] mv_X10_178 (hL.1 107 _ rfl) rfl (by decide) ⟨Nat.le_of_ble_eq_true rfl, Nat.le_of_ble_eq_true rfl⟩ ⟨Nat.le_refl _, Nat.le_refl _⟩ rfl rfl (Nat.le_of_ble_eq_true rfl) dX10_aHarm_134 h (fun r437 D437 h => ?_)
                      obtain ⟨s438, h⟩ := h
                      refine go_if_eq 175 dX10_aHarm_137 (by decide) s438 (fun c439 => ?_) (fun c439 => ?_)
                      · have h := h.1 c439
                        refine go_iconst dX10_aHarm_175 ?_
                        exact go_zreturn (Nat.le_refl _) (Nat.le_refl _) rfl (by decide) dX10_aHarm_176 h
                      · have h := h.2 c439
                        refine go_aload_n 0 dX10_aHarm_140 rfl rfl ?_
                        refine go_iload_n 3 dX10_aHarm_141 rfl rfl ?_
                        refine go_iconst dX10_aHarm_142 ?_
                        refine go_iadd dX10_aHarm_143 ?_
                        refine go_iconst dX10_aHarm_144 ?_
                        refine go_bipush dX10_aHarm_145 (by decide) ?_
                        refine go_vI (M := MX10_number) [vI ((458 + (5 * (D 108 401))) + 3), vI 0, vI 8] [] mv_X10_181 (hL.1 107 _ rfl) rfl (by decide) ⟨Nat.le_of_ble_eq_true rfl, Nat.le_of_ble_eq_true rfl⟩ ⟨Nat.le_refl _, Nat.le_refl _⟩ rfl rfl (Nat.le_of_ble_eq_true rfl) dX10_aHarm_147 h (fun r442 D442 h => ?_)
                        obtain ⟨s443, h⟩ := h
                        refine go_if_eq 175 dX10_aHarm_150 (by decide) s443 (fun c444 => ?_) (fun c444 => ?_)
                        · have h := h.1 c444
                          refine go_iconst dX10_aHarm_175 ?_
                          exact go_zreturn (Nat.le_refl _) (Nat.le_refl _) rfl (by decide) dX10_aHarm_176 h
                        · have h := h.2 c444
                          refine go_aload_n 0 dX10_aHarm_153 rfl rfl ?_
                          refine go_bipush dX10_aHarm_154 (by decide) ?_
                          refine go_vI (M := MX10_wantWord) [vI 13] [] mv_X10_178 (hL.1 107 _ rfl) rfl (by decide) ⟨Nat.le_of_ble_eq_true rfl, Nat.le_of_ble_eq_true rfl⟩ ⟨Nat.le_refl _, Nat.le_refl _⟩ rfl rfl (Nat.le_of_ble_eq_true rfl) dX10_aHarm_156 h (fun r447 D447 h => ?_)
                          obtain ⟨s448, h⟩ := h
                          refine go_if_eq 175 dX10_aHarm_159 (by decide) s448 (fun c449 => ?_) (fun c449 => ?_)
                          · have h := h.1 c449
                            refine go_iconst dX10_aHarm_175 ?_
                            exact go_zreturn (Nat.le_refl _) (Nat.le_refl _) rfl (by decide) dX10_aHarm_176 h
                          · have h := h.2 c449
                            refine go_aload_n 0 dX10_aHarm_162 rfl rfl ?_
                            refine go_iload_n 3 dX10_aHarm_163 rfl rfl ?_
                            refine go_iconst dX10_aHarm_164 ?_
                            refine go_iadd dX10_aHarm_165 ?_
                            refine go_iconst dX10_aHarm_166 ?_
                            refine go_bipush dX10_aHarm_167 (by decide) ?_
                            refine go_vI (M := MX10_number) [vI ((458 + (5 * (D 108 401))) + 4), vI 0, vI 16] [] mv_X10_181 (hL.1 107 _ rfl) rfl (by decide) ⟨Nat.le_of_ble_eq_true rfl, Nat.le_of_ble_eq_true rfl⟩ ⟨Nat.le_refl _, Nat.le_refl _⟩ rfl rfl (Nat.le_of_ble_eq_true rfl) dX10_aHarm_169 h (fun r452 D452 h => ?_)
                            obtain ⟨s453, h⟩ := h
                            refine go_if_ne 177 dX10_aHarm_172 (by decide) s453 (fun c454 => ?_) (fun c454 => ?_)
                            · have h := h.1 c454
                              obtain ⟨s455, h⟩ := h
                              refine go_aload_n 0 dX10_aHarm_177 rfl rfl ?_
                              refine go_getR 0 f_X10_7 rfl (hL.1 107 _ rfl) (hL.2.1 107 0 _ rfl (by decide)) dX10_aHarm_178 ?_
                              refine go_sipush dX10_aHarm_181 (by decide) ?_
                              refine go_dup2 rfl rfl dX10_aHarm_184 ?_
                              refine go_iaload (hL.1 108 _ rfl) (b := 500) rfl (by decide) (by decide) dX10_aHarm_185 ?_
                              refine go_iconst dX10_aHarm_186 ?_
                              refine go_iadd dX10_aHarm_187 ?_
                              refine go_iastore (hL.1 108 _ rfl) (b := 500) rfl (by decide) (by decide) s455 dX10_aHarm_188 ?_
                              refine go_iconst dX10_aHarm_189 ?_
                              exact go_zreturn (Nat.le_refl _) (Nat.le_refl _) rfl (by decide) dX10_aHarm_190 h
                            · have h := h.2 c454
                              refine go_iconst dX10_aHarm_175 ?_
                              exact go_zreturn (Nat.le_refl _) (Nat.le_refl _) rfl (by decide) dX10_aHarm_176 h
                    · have h := h.2 c435
                      refine go_iconst dX10_aHarm_129 ?_
                      exact go_zreturn (Nat.le_refl _) (Nat.le_refl _) rfl (by decide) dX10_aHarm_130 h
                · have h := h.2 c403
                  refine go_iconst dX10_aHarm_107 ?_
                  refine go_goto 112 dX10_aHarm_108 (by decide) ?_
                  refine go_iload_n 1 dX10_aHarm_112 rfl rfl ?_
                  refine go_iconst dX10_aHarm_113 ?_
                  refine go_icmp_ne 122 dX10_aHarm_114 (by decide) s6.2 (by decide) (fun c459 => ?_) (fun c459 => ?_)
                  · have h := h.1 c459
                    refine go_iconst dX10_aHarm_122 ?_
                    refine go_vI (M := MX10_number) [vI ((458 + (5 * (D 108 401))) + 1), vI 0, vI 3] [] mv_X10_181 (hL.1 107 _ rfl) rfl (by decide) ⟨Nat.le_of_ble_eq_true rfl, Nat.le_of_ble_eq_true rfl⟩ ⟨Nat.le_refl _, Nat.le_refl _⟩ rfl rfl (Nat.le_of_ble_eq_true rfl) dX10_aHarm_123 h (fun r461 D461 h => ?_)
                    obtain ⟨s462, h⟩ := h
                    refine go_if_ne 131 dX10_aHarm_126 (by decide) s462 (fun c463 => ?_) (fun c463 => ?_)
                    · have h := h.1 c463
                      refine go_aload_n 0 dX10_aHarm_131 rfl rfl ?_
                      refine go_bipush dX10_aHarm_132 (by decide) ?_
                      refine go_vI (M := MX10_wantWord) [vI 12] [] mv_X10_178 (hL.1 107 _ rfl) rfl (by decide) ⟨Nat.le_of_ble_eq_true rfl, Nat.le_of_ble_eq_true rfl⟩ ⟨Nat.le_refl _, Nat.le_refl _⟩ rfl rfl (Nat.le_of_ble_eq_true rfl) dX10_aHarm_134 h (fun r465 D465 h => ?_)
                      obtain ⟨s466, h⟩ := h
                      refine go_if_eq 175 dX10_aHarm_137 (by decide) s466 (fun c467 => ?_) (fun c467 => ?_)
                      · have h := h.1 c467
                        refine go_iconst dX10_aHarm_175 ?_
                        exact go_zreturn (Nat.le_refl _) (Nat.le_refl _) rfl (by decide) dX10_aHarm_176 h
                      · have h := h.2 c467
                        refine go_aload_n 0 dX10_aHarm_140 rfl rfl ?_
                        refine go_iload_n 3 dX10_aHarm_141 rfl rfl ?_
                        refine go_iconst dX10_aHarm_142 ?_
                        refine go_iadd dX10_aHarm_143 ?_
                        refine go_iconst dX10_aHarm_144 ?_
                        refine go_bipush dX10_aHarm_145 (by decide) ?_
                        refine go_vI (M := MX10_number) [vI ((458 + (5 * (D 108 401))) + 3), vI 0, vI 8] [] mv_X10_181 (hL.1 107 _ rfl) rfl (by decide) ⟨Nat.le_of_ble_eq_true rfl, Nat.le_of_ble_eq_true rfl⟩ ⟨Nat.le_refl _, Nat.le_refl _⟩ rfl rfl (Nat.le_of_ble_eq_true rfl) dX10_aHarm_147 h (fun r470 D470 h => ?_)
                        obtain ⟨s471, h⟩ := h
                        refine go_if_eq 175 dX10_aHarm_150 (by decide) s471 (fun c472 => ?_) (fun c472 => ?_)
                        · have h := h.1 c472
                          refine go_iconst dX10_aHarm_175 ?_
                          exact go_zreturn (Nat.le_refl _) (Nat.le_refl _) rfl (by decide) dX10_aHarm_176 h
                        · have h := h.2 c472
                          refine go_aload_n 0 dX10_aHarm_153 rfl rfl ?_
                          refine go_bipush dX10_aHarm_154 (by decide) ?_
                          refine go_vI (M := MX10_wantWord) [vI 13] [] mv_X10_178 (hL.1 107 _ rfl) rfl (by decide) ⟨Nat.le_of_ble_eq_true rfl, Nat.le_of_ble_eq_true rfl⟩ ⟨Nat.le_refl _, Nat.le_refl _⟩ rfl rfl (Nat.le_of_ble_eq_true rfl) dX10_aHarm_156 h (fun r475 D475 h => ?_)
                          obtain ⟨s476, h⟩ := h
                          refine go_if_eq 175 dX10_aHarm_159 (by decide) s476 (fun c477 => ?_) (fun c477 => ?_)
                          · have h := h.1 c477
                            refine go_iconst dX10_aHarm_175 ?_
                            exact go_zreturn (Nat.le_refl _) (Nat.le_refl _) rfl (by decide) dX10_aHarm_176 h
                          · have h := h.2 c477
                            refine go_aload_n 0 dX10_aHarm_162 rfl rfl ?_
                            refine go_iload_n 3 dX10_aHarm_163 rfl rfl ?_
                            refine go_iconst dX10_aHarm_164 ?_
                            refine go_iadd dX10_aHarm_165 ?_
                            refine go_iconst dX10_aHarm_166 ?_
                            refine go_bipush dX10_aHarm_167 (by decide) ?_
                            refine go_vI (M := MX10_number) [vI ((458 + (5 * (D 108 401))) + 4), vI 0, vI 16] [] mv_X10_181 (hL.1 107 _ rfl) rfl (by decide) ⟨Nat.le_of_ble_eq_true rfl, Nat.le_of_ble_eq_true rfl⟩ ⟨Nat.le_refl _, Nat.le_refl _⟩ rfl rfl (Nat.le_of_ble_eq_true rfl) dX10_aHarm_169 h (fun r480 D480 h => ?_)
                            obtain ⟨s481, h⟩ := h
                            refine go_if_ne 177 dX10_aHarm_172 (by decide) s481 (fun c482 => ?_) (fun c482 => ?_)
                            · have h := h.1 c482
                              obtain ⟨s483, h⟩ := h
                              refine go_aload_n 0 dX10_aHarm_177 rfl rfl ?_
                              refine go_getR 0 f_X10_7 rfl (hL.1 107 _ rfl) (hL.2.1 107 0 _ rfl (by decide)) dX10_aHarm_178 ?_
                              refine go_sipush dX10_aHarm_181 (by decide) ?_
                              refine go_dup2 rfl rfl dX10_aHarm_184 ?_
                              refine go_iaload (hL.1 108 _ rfl) (b := 500) rfl (by decide) (by decide) dX10_aHarm_185 ?_
                              refine go_iconst dX10_aHarm_186 ?_
                              refine go_iadd dX10_aHarm_187 ?_
                              refine go_iastore (hL.1 108 _ rfl) (b := 500) rfl (by decide) (by decide) s483 dX10_aHarm_188 ?_
                              refine go_iconst dX10_aHarm_189 ?_
                              exact go_zreturn (Nat.le_refl _) (Nat.le_refl _) rfl (by decide) dX10_aHarm_190 h
                            · have h := h.2 c482
                              refine go_iconst dX10_aHarm_175 ?_
                              exact go_zreturn (Nat.le_refl _) (Nat.le_refl _) rfl (by decide) dX10_aHarm_176 h
                    · have h := h.2 c463
                      refine go_iconst dX10_aHarm_129 ?_
                      exact go_zreturn (Nat.le_refl _) (Nat.le_refl _) rfl (by decide) dX10_aHarm_130 h
                  · have h := h.2 c459
                    refine go_bipush dX10_aHarm_117 (by decide) ?_
                    refine go_goto 123 dX10_aHarm_119 (by decide) ?_
                    refine go_vI (M := MX10_number) [vI ((458 + (5 * (D 108 401))) + 1), vI 0, vI 99] [] mv_X10_181 (hL.1 107 _ rfl) rfl (by decide) ⟨Nat.le_of_ble_eq_true rfl, Nat.le_of_ble_eq_true rfl⟩ ⟨Nat.le_refl _, Nat.le_refl _⟩ rfl rfl (Nat.le_of_ble_eq_true rfl) dX10_aHarm_123 h (fun r487 D487 h => ?_)
                    obtain ⟨s488, h⟩ := h
                    refine go_if_ne 131 dX10_aHarm_126 (by decide) s488 (fun c489 => ?_) (fun c489 => ?_)
                    · have h := h.1 c489
                      refine go_aload_n 0 dX10_aHarm_131 rfl rfl ?_
                      refine go_bipush dX10_aHarm_132 (by decide) ?_
                      refine go_vI (M := MX10_wantWord) [vI 12] [] mv_X10_178 (hL.1 107 _ rfl) rfl (by decide) ⟨Nat.le_of_ble_eq_true rfl, Nat.le_of_ble_eq_true rfl⟩ ⟨Nat.le_refl _, Nat.le_refl _⟩ rfl rfl (Nat.le_of_ble_eq_true rfl) dX10_aHarm_134 h (fun r491 D491 h => ?_)
                      obtain ⟨s492, h⟩ := h
                      refine go_if_eq 175 dX10_aHarm_137 (by decide) s492 (fun c493 => ?_) (fun c493 => ?_)
                      · have h := h.1 c493
                        refine go_iconst dX10_aHarm_175 ?_
                        exact go_zreturn (Nat.le_refl _) (Nat.le_refl _) rfl (by decide) dX10_aHarm_176 h
                      · have h := h.2 c493
                        refine go_aload_n 0 dX10_aHarm_140 rfl rfl ?_
                        refine go_iload_n 3 dX10_aHarm_141 rfl rfl ?_
                        refine go_iconst dX10_aHarm_142 ?_
                        refine go_iadd dX10_aHarm_143 ?_
                        refine go_iconst dX10_aHarm_144 ?_
                        refine go_bipush dX10_aHarm_145 (by decide) ?_
                        refine go_vI (M := MX10_number) [vI ((458 + (5 * (D 108 401))) + 3), vI 0, vI 8] [] mv_X10_181 (hL.1 107 _ rfl) rfl (by decide) ⟨Nat.le_of_ble_eq_true rfl, Nat.le_of_ble_eq_true rfl⟩ ⟨Nat.le_refl _, Nat.le_refl _⟩ rfl rfl (Nat.le_of_ble_eq_true rfl) dX10_aHarm_147 h (fun r496 D496 h => ?_)
                        obtain ⟨s497, h⟩ := h
                        refine go_if_eq 175 dX10_aHarm_150 (by decide) s497 (fun c498 => ?_) (fun c498 => ?_)
                        · have h := h.1 c498
                          refine go_iconst dX10_aHarm_175 ?_
                          exact go_zreturn (Nat.le_refl _) (Nat.le_refl _) rfl (by decide) dX10_aHarm_176 h
                        · have h := h.2 c498
                          refine go_aload_n 0 dX10_aHarm_153 rfl rfl ?_
                          refine go_bipush dX10_aHarm_154 (by decide) ?_
                          refine go_vI (M := MX10_wantWord) [vI 13] [] mv_X10_178 (hL.1 107 _ rfl) rfl (by decide) ⟨Nat.le_of_ble_eq_true rfl, Nat.le_of_ble_eq_true rfl⟩ ⟨Nat.le_refl _, Nat.le_refl _⟩ rfl rfl (Nat.le_of_ble_eq_true rfl) dX10_aHarm_156 h (fun r501 D501 h => ?_)
                          obtain ⟨s502, h⟩ := h
                          refine go_if_eq 175 dX10_aHarm_159 (by decide) s502 (fun c503 => ?_) (fun c503 => ?_)
                          · have h := h.1 c503
                            refine go_iconst dX10_aHarm_175 ?_
                            exact go_zreturn (Nat.le_refl _) (Nat.le_refl _) rfl (by decide) dX10_aHarm_176 h
                          · have h := h.2 c503
                            refine go_aload_n 0 dX10_aHarm_162 rfl rfl ?_
                            refine go_iload_n 3 dX10_aHarm_163 rfl rfl ?_
                            refine go_iconst dX10_aHarm_164 ?_
                            refine go_iadd dX10_aHarm_165 ?_
                            refine go_iconst dX10_aHarm_166 ?_
                            refine go_bipush dX10_aHarm_167 (by decide) ?_
                            refine go_vI (M := MX10_number) [vI ((458 + (5 * (D 108 401))) + 4), vI 0, vI 16] [] mv_X10_181 (hL.1 107 _ rfl) rfl (by decide) ⟨Nat.le_of_ble_eq_true rfl, Nat.le_of_ble_eq_true rfl⟩ ⟨Nat.le_refl _, Nat.le_refl _⟩ rfl rfl (Nat.le_of_ble_eq_true rfl) dX10_aHarm_169 h (fun r506 D506 h => ?_)
                            obtain ⟨s507, h⟩ := h
                            refine go_if_ne 177 dX10_aHarm_172 (by decide) s507 (fun c508 => ?_) (fun c508 => ?_)
                            · have h := h.1 c508
                              obtain ⟨s509, h⟩ := h
                              refine go_aload_n 0 dX10_aHarm_177 rfl rfl ?_
                              refine go_getR 0 f_X10_7 rfl (hL.1 107 _ rfl) (hL.2.1 107 0 _ rfl (by decide)) dX10_aHarm_178 ?_
                              refine go_sipush dX10_aHarm_181 (by decide) ?_
                              refine go_dup2 rfl rfl dX10_aHarm_184 ?_
                              refine go_iaload (hL.1 108 _ rfl) (b := 500) rfl (by decide) (by decide) dX10_aHarm_185 ?_
                              refine go_iconst dX10_aHarm_186 ?_
                              refine go_iadd dX10_aHarm_187 ?_
                              refine go_iastore (hL.1 108 _ rfl) (b := 500) rfl (by decide) (by decide) s509 dX10_aHarm_188 ?_
                              refine go_iconst dX10_aHarm_189 ?_
                              exact go_zreturn (Nat.le_refl _) (Nat.le_refl _) rfl (by decide) dX10_aHarm_190 h
                            · have h := h.2 c508
                              refine go_iconst dX10_aHarm_175 ?_
                              exact go_zreturn (Nat.le_refl _) (Nat.le_refl _) rfl (by decide) dX10_aHarm_176 h
                    · have h := h.2 c489
                      refine go_iconst dX10_aHarm_129 ?_
                      exact go_zreturn (Nat.le_refl _) (Nat.le_refl _) rfl (by decide) dX10_aHarm_130 h
          · have h := h.2 c266
            refine go_iconst dX10_aHarm_86 ?_
            exact go_zreturn (Nat.le_refl _) (Nat.le_refl _) rfl (by decide) dX10_aHarm_87 h
  · have h := h.2 c3
    refine go_aload_n 0 dX10_aHarm_23 rfl rfl ?_
    refine go_iconst dX10_aHarm_24 ?_
    refine go_vI (M := MX10_fails) [vI 5] [] mv_X10_160 (hL.1 107 _ rfl) rfl (by decide) ⟨Nat.le_of_ble_eq_true rfl, Nat.le_of_ble_eq_true rfl⟩ ⟨Nat.le_refl _, Nat.le_refl _⟩ rfl rfl (Nat.le_of_ble_eq_true rfl) dX10_aHarm_25 h (fun r514 D514 h => ?_)
    obtain ⟨s515, h⟩ := h
    exact go_zreturn (Nat.le_refl _) (Nat.le_refl _) rfl s515 dX10_aHarm_28 h
theorem s_X10_aFamily {l : Launch} {E : Ev} {Q : Int → Sh → Dm → Prop} {G : Sh} {D : Dm} (hL : Lay G)  (h : (((D 108 402) ≠ 4 → C0 l E MX10_ahead 2 [vR E 107] G D (fun r5 D5 => C0 l E MX10_isName 0 [vR E 107] G D5 (fun r7 D7 => ((-2147483648 ≤ r7 ∧ r7 < 2147483648)) ∧ ((r7 ≠ 0 → C0 l E MX10_nameHere 1 [vR E 107] G D7 (fun r11 D11 => C0 l E MX10_find 0 [vR E 115, vI (D 108 402), vJ r11] G D11 (fun r13 D13 => ((-2147483648 ≤ r13 ∧ r13 < 2147483648)) ∧ ((r13 = (-1) → C0 l E MX10_nameHere 1 [vR E 107] G D13 (fun r17 D17 => ((0 ≤ (D 108 402) ∧ (D 108 402) < 4) ∧ (-9223372036854775808 ≤ r17 ∧ r17 < 9223372036854775808)) ∧ C0 l E MX10_ahead 2 [vR E 107] G (upd2 D17 115 (D 108 402) r17) (fun r19 D19 => C0 l E MX10_wantWord 0 [vR E 107, vI 6] G D19 (fun r21 D21 => ((-2147483648 ≤ r21 ∧ r21 < 2147483648)) ∧ ((r21 = 0 → Q 0 G D21) ∧ (r21 ≠ 0 → C0 l E MX10_number 0 [vR E 107, vI (488 + (3 * (D 108 402))), vI 0, vI 99] G D21 (fun r26 D26 => ((-2147483648 ≤ r26 ∧ r26 < 2147483648)) ∧ ((r26 = 0 → Q 0 G D26) ∧ (r26 ≠ 0 → C0 l E MX10_number 0 [vR E 107, vI ((488 + (3 * (D 108 402))) + 1), vI 0, vI 99] G D26 (fun r31 D31 => ((-2147483648 ≤ r31 ∧ r31 < 2147483648)) ∧ ((r31 = 0 → Q 0 G D31) ∧ (r31 ≠ 0 → C0 l E MX10_wantWord 0 [vR E 107, vI 10] G D31 (fun r36 D36 => ((-2147483648 ≤ r36 ∧ r36 < 2147483648)) ∧ ((r36 = 0 → Q 0 G D36) ∧ (r36 ≠ 0 → C0 l E MX10_number 0 [vR E 107, vI ((488 + (3 * (D 108 402))) + 2), vI 0, vI 99] G D36 (fun r41 D41 => ((-2147483648 ≤ r41 ∧ r41 < 2147483648)) ∧ ((r41 ≠ 0 → ((-2147483648 ≤ ((D41 108 402) + 1) ∧ ((D41 108 402) + 1) < 2147483648)) ∧ KX10_aFamily l E Q 150 [(0, vR E 107), (1, vI (D 108 402)), (2, vI (488 + (3 * (D 108 402))))] G (upd2 D41 108 402 ((D41 108 402) + 1))) ∧ (r41 = 0 → Q 0 G D41)))))))))))))))))) ∧ (r13 ≠ (-1) → C0 l E MX10_fails 0 [vR E 107, vI 3] G D13 (fun r47 D47 => ((r47 = 0 ∨ r47 = 1)) ∧ Q r47 G D47)))))) ∧ (r7 = 0 → C0 l E MX10_fails 0 [vR E 107, vI 2] G D7 (fun r50 D50 => ((r50 = 0 ∨ r50 = 1)) ∧ Q r50 G D50)))))) ∧ ((D 108 402) = 4 → C0 l E MX10_fails 0 [vR E 107, vI 5] G D (fun r53 D53 => ((r53 = 0 ∨ r53 = 1)) ∧ Q r53 G D53)))) : Ct l E MX10_aFamily 0 0 0 [vR E 107] G D Q := by
  refine Ct.of (by decide) (Nat.le_of_ble_eq_true rfl) ?_
  show KX10_aFamily l E Q 0 [(0, vR E 107)] G D
  refine go_aload_n 0 dX10_aFamily_0 rfl rfl ?_
  refine go_getR 0 f_X10_7 rfl (hL.1 107 _ rfl) (hL.2.1 107 0 _ rfl (by decide)) dX10_aFamily_1 ?_
  refine go_sipush dX10_aFamily_4 (by decide) ?_
  refine go_iaload (hL.1 108 _ rfl) (b := 500) rfl (by decide) (by decide) dX10_aFamily_7 ?_
  refine go_istore_n [1, 0] (L' := [(0, vR E 107), (1, vI (D 108 402))]) dX10_aFamily_8 rfl (by decide) rfl ?_
  refine go_sipush dX10_aFamily_9 (by decide) ?_
  refine go_iconst dX10_aFamily_12 ?_
  refine go_iload_n 1 dX10_aFamily_13 rfl rfl ?_
  refine go_imul dX10_aFamily_14 ?_
  refine go_iadd dX10_aFamily_15 ?_
  refine go_istore_n [1, 2, 0] (L' := [(0, vR E 107), (1, vI (D 108 402)), (2, vI (488 + (3 * (D 108 402))))]) dX10_aFamily_16 rfl (by decide) rfl ?_
  refine go_iload_n 1 dX10_aFamily_17 rfl rfl ?_
  refine go_iconst dX10_aFamily_18 ?_
  refine go_rngI (c := 108) (i := 402) (hL.1 108 _ rfl) rfl (fun (q2 : -2147483648 ≤ (D 108 402) ∧ (D 108 402) < 2147483648) => ?_)
  refine go_icmp_ne 28 dX10_aFamily_19 (by decide) q2 (by decide) (fun c3 => ?_) (fun c3 => ?_)
  · have h := h.1 c3
    refine go_aload_n 0 dX10_aFamily_28 rfl rfl ?_
    refine go_vV (M := MX10_ahead) [] [] mv_X10_163 (hL.1 107 _ rfl) rfl (by decide) ⟨Nat.le_of_ble_eq_true rfl, Nat.le_of_ble_eq_true rfl⟩ ⟨Nat.le_refl _, Nat.le_refl _⟩ rfl rfl (Nat.le_of_ble_eq_true rfl) dX10_aFamily_29 h (fun r5 D5 h => ?_)
    refine go_aload_n 0 dX10_aFamily_32 rfl rfl ?_
    refine go_vI (M := MX10_isName) [] [] mv_X10_166 (hL.1 107 _ rfl) rfl (by decide) ⟨Nat.le_of_ble_eq_true rfl, Nat.le_of_ble_eq_true rfl⟩ ⟨Nat.le_refl _, Nat.le_refl _⟩ rfl rfl (Nat.le_of_ble_eq_true rfl) dX10_aFamily_33 h (fun r7 D7 h => ?_)
    obtain ⟨s8, h⟩ := h
    refine go_if_ne 45 dX10_aFamily_36 (by decide) s8 (fun c9 => ?_) (fun c9 => ?_)
    · have h := h.1 c9
      refine go_aload_n 0 dX10_aFamily_45 rfl rfl ?_
      refine go_getR 19 f_X10_44 rfl (hL.1 107 _ rfl) (hL.2.1 107 19 _ rfl (by decide)) dX10_aFamily_46 ?_
      refine go_iload_n 1 dX10_aFamily_49 rfl rfl ?_
      refine go_aload_n 0 dX10_aFamily_50 rfl rfl ?_
      refine go_vJ (M := MX10_nameHere) [] [vI (D 108 402), vR E 115] mv_X10_170 (hL.1 107 _ rfl) rfl (by decide) ⟨Nat.le_of_ble_eq_true rfl, Nat.le_of_ble_eq_true rfl⟩ ⟨Nat.le_refl _, Nat.le_refl _⟩ rfl rfl (Nat.le_of_ble_eq_true rfl) dX10_aFamily_51 h (fun r11 D11 h => ?_)
      refine go_sI (M := MX10_find) [vR E 115, vI (D 108 402), vJ r11] [] ms_X10_174 ⟨Nat.le_of_ble_eq_true rfl, Nat.le_of_ble_eq_true rfl⟩ ⟨Nat.le_refl _, Nat.le_refl _⟩ rfl rfl (Nat.le_of_ble_eq_true rfl) dX10_aFamily_54 h (fun r13 D13 h => ?_)
      obtain ⟨s14, h⟩ := h
      refine go_iconst dX10_aFamily_57 ?_
      refine go_icmp_eq 67 dX10_aFamily_58 (by decide) s14 (by decide) (fun c15 => ?_) (fun c15 => ?_)
      · have h := h.1 c15
        refine go_aload_n 0 dX10_aFamily_67 rfl rfl ?_
        refine go_getR 19 f_X10_44 rfl (hL.1 107 _ rfl) (hL.2.1 107 19 _ rfl (by decide)) dX10_aFamily_68 ?_
        refine go_iload_n 1 dX10_aFamily_71 rfl rfl ?_
        refine go_aload_n 0 dX10_aFamily_72 rfl rfl ?_
        refine go_vJ (M := MX10_nameHere) [] [vI (D 108 402), vR E 115] mv_X10_170 (hL.1 107 _ rfl) rfl (by decide) ⟨Nat.le_of_ble_eq_true rfl, Nat.le_of_ble_eq_true rfl⟩ ⟨Nat.le_refl _, Nat.le_refl _⟩ rfl rfl (Nat.le_of_ble_eq_true rfl) dX10_aFamily_73 h (fun r17 D17 h => ?_)
        obtain ⟨s18, h⟩ := h
        refine go_lastore (hL.1 115 _ rfl) (b := 4) rfl (by decide) s18.1 s18.2 dX10_aFamily_76 ?_
        refine go_aload_n 0 dX10_aFamily_77 rfl rfl ?_
        refine go_vV (M := MX10_ahead) [] [] mv_X10_163 (hL.1 107 _ rfl) rfl (by decide) ⟨Nat.le_of_ble_eq_true rfl, Nat.le_of_ble_eq_true rfl⟩ ⟨Nat.le_refl _, Nat.le_refl _⟩ rfl rfl (Nat.le_of_ble_eq_true rfl) dX10_aFamily_78 h (fun r19 D19 h => ?_)
        refine go_aload_n 0 dX10_aFamily_81 rfl rfl ?_
        refine go_bipush dX10_aFamily_82 (by decide) ?_
        refine go_vI (M := MX10_wantWord) [vI 6] [] mv_X10_178 (hL.1 107 _ rfl) rfl (by decide) ⟨Nat.le_of_ble_eq_true rfl, Nat.le_of_ble_eq_true rfl⟩ ⟨Nat.le_refl _, Nat.le_refl _⟩ rfl rfl (Nat.le_of_ble_eq_true rfl) dX10_aFamily_84 h (fun r21 D21 h => ?_)
        obtain ⟨s22, h⟩ := h
        refine go_if_eq 136 dX10_aFamily_87 (by decide) s22 (fun c23 => ?_) (fun c23 => ?_)
        · have h := h.1 c23
          refine go_iconst dX10_aFamily_136 ?_
          exact go_zreturn (Nat.le_refl _) (Nat.le_refl _) rfl (by decide) dX10_aFamily_137 h
        · have h := h.2 c23
          refine go_aload_n 0 dX10_aFamily_90 rfl rfl ?_
          refine go_iload_n 2 dX10_aFamily_91 rfl rfl ?_
          refine go_iconst dX10_aFamily_92 ?_
          refine go_bipush dX10_aFamily_93 (by decide) ?_
          refine go_vI (M := MX10_number) [vI (488 + (3 * (D 108 402))), vI 0, vI 99] [] mv_X10_181 (hL.1 107 _ rfl) rfl (by decide) ⟨Nat.le_of_ble_eq_true rfl, Nat.le_of_ble_eq_true rfl⟩ ⟨Nat.le_refl _, Nat.le_refl _⟩ rfl rfl (Nat.le_of_ble_eq_true rfl) dX10_aFamily_95 h (fun r26 D26 h => ?_)
          obtain ⟨s27, h⟩ := h
          refine go_if_eq 136 dX10_aFamily_98 (by decide) s27 (fun c28 => ?_) (fun c28 => ?_)
          · have h := h.1 c28
            refine go_iconst dX10_aFamily_136 ?_
            exact go_zreturn (Nat.le_refl _) (Nat.le_refl _) rfl (by decide) dX10_aFamily_137 h
          · have h := h.2 c28
            refine go_aload_n 0 dX10_aFamily_101 rfl rfl ?_
            refine go_iload_n 2 dX10_aFamily_102 rfl rfl ?_
            refine go_iconst dX10_aFamily_103 ?_
            refine go_iadd dX10_aFamily_104 ?_
            refine go_iconst dX10_aFamily_105 ?_
            refine go_bipush dX10_aFamily_106 (by decide) ?_
            refine go_vI (M := MX10_number) [vI ((488 + (3 * (D 108 402))) + 1), vI 0, vI 99] [] mv_X10_181 (hL.1 107 _ rfl) rfl (by decide) ⟨Nat.le_of_ble_eq_true rfl, Nat.le_of_ble_eq_true rfl⟩ ⟨Nat.le_refl _, Nat.le_refl _⟩ rfl rfl (Nat.le_of_ble_eq_true rfl) dX10_aFamily_108 h (fun r31 D31 h => ?_)
            obtain ⟨s32, h⟩ := h
            refine go_if_eq 136 dX10_aFamily_111 (by decide) s32 (fun c33 => ?_) (fun c33 => ?_)
            · have h := h.1 c33
              refine go_iconst dX10_aFamily_136 ?_
              exact go_zreturn (Nat.le_refl _) (Nat.le_refl _) rfl (by decide) dX10_aFamily_137 h
            · have h := h.2 c33
              refine go_aload_n 0 dX10_aFamily_114 rfl rfl ?_
              refine go_bipush dX10_aFamily_115 (by decide) ?_
              refine go_vI (M := MX10_wantWord) [vI 10] [] mv_X10_178 (hL.1 107 _ rfl) rfl (by decide) ⟨Nat.le_of_ble_eq_true rfl, Nat.le_of_ble_eq_true rfl⟩ ⟨Nat.le_refl _, Nat.le_refl _⟩ rfl rfl (Nat.le_of_ble_eq_true rfl) dX10_aFamily_117 h (fun r36 D36 h => ?_)
              obtain ⟨s37, h⟩ := h
              refine go_if_eq 136 dX10_aFamily_120 (by decide) s37 (fun c38 => ?_) (fun c38 => ?_)
              · have h := h.1 c38
                refine go_iconst dX10_aFamily_136 ?_
                exact go_zreturn (Nat.le_refl _) (Nat.le_refl _) rfl (by decide) dX10_aFamily_137 h
              · have h := h.2 c38
                refine go_aload_n 0 dX10_aFamily_123 rfl rfl ?_
                refine go_iload_n 2 dX10_aFamily_124 rfl rfl ?_
                refine go_iconst dX10_aFamily_125 ?_
                refine go_iadd dX10_aFamily_126 ?_
                refine go_iconst dX10_aFamily_127 ?_
                refine go_bipush dX10_aFamily_128 (by decide) ?_
                refine go_vI (M := MX10_number) [vI ((488 + (3 * (D 108 402))) + 2), vI 0, vI 99] [] mv_X10_181 (hL.1 107 _ rfl) rfl (by decide) ⟨Nat.le_of_ble_eq_true rfl, Nat.le_of_ble_eq_true rfl⟩ ⟨Nat.le_refl _, Nat.le_refl _⟩ rfl rfl (Nat.le_of_ble_eq_true rfl) dX10_aFamily_130 h (fun r41 D41 h => ?_)
                obtain ⟨s42, h⟩ := h
                refine go_if_ne 138 dX10_aFamily_133 (by decide) s42 (fun c43 => ?_) (fun c43 => ?_)
                · have h := h.1 c43
                  obtain ⟨s44, h⟩ := h
                  refine go_aload_n 0 dX10_aFamily_138 rfl rfl ?_
                  refine go_getR 0 f_X10_7 rfl (hL.1 107 _ rfl) (hL.2.1 107 0 _ rfl (by decide)) dX10_aFamily_139 ?_
                  refine go_sipush dX10_aFamily_142 (by decide) ?_
                  refine go_dup2 rfl rfl dX10_aFamily_145 ?_
                  refine go_iaload (hL.1 108 _ rfl) (b := 500) rfl (by decide) (by decide) dX10_aFamily_146 ?_
                  refine go_iconst dX10_aFamily_147 ?_
                  refine go_iadd dX10_aFamily_148 ?_
                  refine go_iastore (hL.1 108 _ rfl) (b := 500) rfl (by decide) (by decide) s44 dX10_aFamily_149 ?_
                  exact h
                · have h := h.2 c43
                  refine go_iconst dX10_aFamily_136 ?_
                  exact go_zreturn (Nat.le_refl _) (Nat.le_refl _) rfl (by decide) dX10_aFamily_137 h
      · have h := h.2 c15
        refine go_aload_n 0 dX10_aFamily_61 rfl rfl ?_
        refine go_iconst dX10_aFamily_62 ?_
        refine go_vI (M := MX10_fails) [vI 3] [] mv_X10_160 (hL.1 107 _ rfl) rfl (by decide) ⟨Nat.le_of_ble_eq_true rfl, Nat.le_of_ble_eq_true rfl⟩ ⟨Nat.le_refl _, Nat.le_refl _⟩ rfl rfl (Nat.le_of_ble_eq_true rfl) dX10_aFamily_63 h (fun r47 D47 h => ?_)
        obtain ⟨s48, h⟩ := h
        exact go_zreturn (Nat.le_refl _) (Nat.le_refl _) rfl s48 dX10_aFamily_66 h
    · have h := h.2 c9
      refine go_aload_n 0 dX10_aFamily_39 rfl rfl ?_
      refine go_iconst dX10_aFamily_40 ?_
      refine go_vI (M := MX10_fails) [vI 2] [] mv_X10_160 (hL.1 107 _ rfl) rfl (by decide) ⟨Nat.le_of_ble_eq_true rfl, Nat.le_of_ble_eq_true rfl⟩ ⟨Nat.le_refl _, Nat.le_refl _⟩ rfl rfl (Nat.le_of_ble_eq_true rfl) dX10_aFamily_41 h (fun r50 D50 h => ?_)
      obtain ⟨s51, h⟩ := h
      exact go_zreturn (Nat.le_refl _) (Nat.le_refl _) rfl s51 dX10_aFamily_44 h
  · have h := h.2 c3
    refine go_aload_n 0 dX10_aFamily_22 rfl rfl ?_
    refine go_iconst dX10_aFamily_23 ?_
    refine go_vI (M := MX10_fails) [vI 5] [] mv_X10_160 (hL.1 107 _ rfl) rfl (by decide) ⟨Nat.le_of_ble_eq_true rfl, Nat.le_of_ble_eq_true rfl⟩ ⟨Nat.le_refl _, Nat.le_refl _⟩ rfl rfl (Nat.le_of_ble_eq_true rfl) dX10_aFamily_24 h (fun r53 D53 h => ?_)
    obtain ⟨s54, h⟩ := h
    exact go_zreturn (Nat.le_refl _) (Nat.le_refl _) rfl s54 dX10_aFamily_27 h
theorem s_X10_aFamily_150 {l : Launch} {E : Ev} {Q : Int → Sh → Dm → Prop} {G : Sh} {D : Dm} (hL : Lay G) {v1 v2 : Int}  (h : C0 l E MX10_keyWord 0 [vR E 107] G D (fun r2 D2 => ((-2147483648 ≤ r2 ∧ r2 < 2147483648)) ∧ ((r2 ≠ 11 → Q 1 G D2) ∧ (r2 = 11 → C0 l E MX10_ahead 2 [vR E 107] G D2 (fun r7 D7 => C0 l E MX10_isName 0 [vR E 107] G D7 (fun r9 D9 => ((-2147483648 ≤ r9 ∧ r9 < 2147483648)) ∧ ((r9 ≠ 0 → C0 l E MX10_nameHere 1 [vR E 107] G D9 (fun r13 D13 => C0 l E MX10_find 0 [vR E 114, vI (D9 108 400), vJ r13] G D13 (fun r15 D15 => ((-2147483648 ≤ r15 ∧ r15 < 2147483648)) ∧ ((r15 ≠ (-1) → ((0 ≤ ((408 + (5 * r15)) + 4) ∧ ((408 + (5 * r15)) + 4) < 500)) ∧ (((D15 108 ((408 + (5 * r15)) + 4)) = (-1) → ((-2147483648 ≤ v1 ∧ v1 < 2147483648)) ∧ C0 l E MX10_ahead 2 [vR E 107] G (upd2 D15 108 ((408 + (5 * r15)) + 4) v1) (fun r22 D22 => KX10_aFamily l E Q 150 [(0, vR E 107), (1, vI v1), (2, vI v2)] G D22)) ∧ ((D15 108 ((408 + (5 * r15)) + 4)) ≠ (-1) → C0 l E MX10_fails 0 [vR E 107, vI 6] G D15 (fun r25 D25 => ((r25 = 0 ∨ r25 = 1)) ∧ Q r25 G D25)))) ∧ (r15 = (-1) → C0 l E MX10_fails 0 [vR E 107, vI 3] G D15 (fun r28 D28 => ((r28 = 0 ∨ r28 = 1)) ∧ Q r28 G D28)))))) ∧ (r9 = 0 → C0 l E MX10_fails 0 [vR E 107, vI 2] G D9 (fun r31 D31 => ((r31 = 0 ∨ r31 = 1)) ∧ Q r31 G D31))))))))) : KX10_aFamily l E Q 150 [(0, vR E 107), (1, vI v1), (2, vI v2)] G D := by
  refine go_aload_n 0 dX10_aFamily_150 rfl rfl ?_
  refine go_vI (M := MX10_keyWord) [] [] mv_X10_157 (hL.1 107 _ rfl) rfl (by decide) ⟨Nat.le_of_ble_eq_true rfl, Nat.le_of_ble_eq_true rfl⟩ ⟨Nat.le_refl _, Nat.le_refl _⟩ rfl rfl (Nat.le_of_ble_eq_true rfl) dX10_aFamily_151 h (fun r2 D2 h => ?_)
  obtain ⟨s3, h⟩ := h
  refine go_bipush dX10_aFamily_154 (by decide) ?_
  refine go_icmp_ne 254 dX10_aFamily_156 (by decide) s3 (by decide) (fun c4 => ?_) (fun c4 => ?_)
  · have h := h.1 c4
    refine go_iconst dX10_aFamily_254 ?_
    exact go_zreturn (Nat.le_refl _) (Nat.le_refl _) rfl (by decide) dX10_aFamily_255 h
  · have h := h.2 c4
    refine go_aload_n 0 dX10_aFamily_159 rfl rfl ?_
    refine go_vV (M := MX10_ahead) [] [] mv_X10_163 (hL.1 107 _ rfl) rfl (by decide) ⟨Nat.le_of_ble_eq_true rfl, Nat.le_of_ble_eq_true rfl⟩ ⟨Nat.le_refl _, Nat.le_refl _⟩ rfl rfl (Nat.le_of_ble_eq_true rfl) dX10_aFamily_160 h (fun r7 D7 h => ?_)
    refine go_aload_n 0 dX10_aFamily_163 rfl rfl ?_
    refine go_vI (M := MX10_isName) [] [] mv_X10_166 (hL.1 107 _ rfl) rfl (by decide) ⟨Nat.le_of_ble_eq_true rfl, Nat.le_of_ble_eq_true rfl⟩ ⟨Nat.le_refl _, Nat.le_refl _⟩ rfl rfl (Nat.le_of_ble_eq_true rfl) dX10_aFamily_164 h (fun r9 D9 h => ?_)
    obtain ⟨s10, h⟩ := h
    refine go_if_ne 176 dX10_aFamily_167 (by decide) s10 (fun c11 => ?_) (fun c11 => ?_)
    · have h := h.1 c11
      refine go_aload_n 0 dX10_aFamily_176 rfl rfl ?_
      refine go_getR 18 f_X10_41 rfl (hL.1 107 _ rfl) (hL.2.1 107 18 _ rfl (by decide)) dX10_aFamily_177 ?_
      refine go_aload_n 0 dX10_aFamily_180 rfl rfl ?_
      refine go_getR 0 f_X10_7 rfl (hL.1 107 _ rfl) (hL.2.1 107 0 _ rfl (by decide)) dX10_aFamily_181 ?_
      refine go_sipush dX10_aFamily_184 (by decide) ?_
      refine go_iaload (hL.1 108 _ rfl) (b := 500) rfl (by decide) (by decide) dX10_aFamily_187 ?_
      refine go_aload_n 0 dX10_aFamily_188 rfl rfl ?_
      refine go_vJ (M := MX10_nameHere) [] [vI (D9 108 400), vR E 114] mv_X10_170 (hL.1 107 _ rfl) rfl (by decide) ⟨Nat.le_of_ble_eq_true rfl, Nat.le_of_ble_eq_true rfl⟩ ⟨Nat.le_refl _, Nat.le_refl _⟩ rfl rfl (Nat.le_of_ble_eq_true rfl) dX10_aFamily_189 h (fun r13 D13 h => ?_)
      refine go_sI (M := MX10_find) [vR E 114, vI (D9 108 400), vJ r13] [] ms_X10_174 ⟨Nat.le_of_ble_eq_true rfl, Nat.le_of_ble_eq_true rfl⟩ ⟨Nat.le_refl _, Nat.le_refl _⟩ rfl rfl (Nat.le_of_ble_eq_true rfl) dX10_aFamily_192 h (fun r15 D15 h => ?_)
      obtain ⟨s16, h⟩ := h
      refine go_istore_n [1, 2, 3, 0] (L' := [(0, vR E 107), (1, vI v1), (2, vI v2), (3, vI r15)]) dX10_aFamily_195 rfl (by decide) rfl ?_
      refine go_iload_n 3 dX10_aFamily_196 rfl rfl ?_
      refine go_iconst dX10_aFamily_197 ?_
      refine go_icmp_ne 207 dX10_aFamily_198 (by decide) s16 (by decide) (fun c17 => ?_) (fun c17 => ?_)
      · have h := h.1 c17
        obtain ⟨s18, h⟩ := h
        refine go_aload_n 0 dX10_aFamily_207 rfl rfl ?_
        refine go_getR 0 f_X10_7 rfl (hL.1 107 _ rfl) (hL.2.1 107 0 _ rfl (by decide)) dX10_aFamily_208 ?_
        refine go_sipush dX10_aFamily_211 (by decide) ?_
        refine go_iconst dX10_aFamily_214 ?_
        refine go_iload_n 3 dX10_aFamily_215 rfl rfl ?_
        refine go_imul dX10_aFamily_216 ?_
        refine go_iadd dX10_aFamily_217 ?_
        refine go_iconst dX10_aFamily_218 ?_
        refine go_iadd dX10_aFamily_219 ?_
        refine go_iaload (hL.1 108 _ rfl) (b := 500) rfl (by decide) s18 dX10_aFamily_220 ?_
        refine go_iconst dX10_aFamily_221 ?_
        refine go_rngI (c := 108) (i := ((408 + (5 * r15)) + 4)) (hL.1 108 _ rfl) rfl (fun (q19 : -2147483648 ≤ (D15 108 ((408 + (5 * r15)) + 4)) ∧ (D15 108 ((408 + (5 * r15)) + 4)) < 2147483648) => ?_)
        refine go_icmp_eq 232 dX10_aFamily_222 (by decide) q19 (by decide) (fun c20 => ?_) (fun c20 => ?_)
        · have h := h.1 c20
          obtain ⟨s21, h⟩ := h
          refine go_aload_n 0 dX10_aFamily_232 rfl rfl ?_
          refine go_getR 0 f_X10_7 rfl (hL.1 107 _ rfl) (hL.2.1 107 0 _ rfl (by decide)) dX10_aFamily_233 ?_
          refine go_sipush dX10_aFamily_236 (by decide) ?_
          refine go_iconst dX10_aFamily_239 ?_
          refine go_iload_n 3 dX10_aFamily_240 rfl rfl ?_
          refine go_imul dX10_aFamily_241 ?_
          refine go_iadd dX10_aFamily_242 ?_
          refine go_iconst dX10_aFamily_243 ?_
          refine go_iadd dX10_aFamily_244 ?_
          refine go_iload_n 1 dX10_aFamily_245 rfl rfl ?_
          refine go_iastore (hL.1 108 _ rfl) (b := 500) rfl (by decide) s18 s21 dX10_aFamily_246 ?_
          refine go_aload_n 0 dX10_aFamily_247 rfl rfl ?_
          refine go_vV (M := MX10_ahead) [] [] mv_X10_163 (hL.1 107 _ rfl) rfl (by decide) ⟨Nat.le_of_ble_eq_true rfl, Nat.le_of_ble_eq_true rfl⟩ ⟨Nat.le_refl _, Nat.le_refl _⟩ rfl rfl (Nat.le_of_ble_eq_true rfl) dX10_aFamily_248 h (fun r22 D22 h => ?_)
          refine go_goto 150 dX10_aFamily_251 (by decide) ?_
          refine go_sub [0, 1, 2] (L' := [(0, vR E 107), (1, vI v1), (2, vI v2)]) rfl ?_
          exact h
        · have h := h.2 c20
          refine go_aload_n 0 dX10_aFamily_225 rfl rfl ?_
          refine go_bipush dX10_aFamily_226 (by decide) ?_
          refine go_vI (M := MX10_fails) [vI 6] [] mv_X10_160 (hL.1 107 _ rfl) rfl (by decide) ⟨Nat.le_of_ble_eq_true rfl, Nat.le_of_ble_eq_true rfl⟩ ⟨Nat.le_refl _, Nat.le_refl _⟩ rfl rfl (Nat.le_of_ble_eq_true rfl) dX10_aFamily_228 h (fun r25 D25 h => ?_)
          obtain ⟨s26, h⟩ := h
          exact go_zreturn (Nat.le_refl _) (Nat.le_refl _) rfl s26 dX10_aFamily_231 h
      · have h := h.2 c17
        refine go_aload_n 0 dX10_aFamily_201 rfl rfl ?_
        refine go_iconst dX10_aFamily_202 ?_
        refine go_vI (M := MX10_fails) [vI 3] [] mv_X10_160 (hL.1 107 _ rfl) rfl (by decide) ⟨Nat.le_of_ble_eq_true rfl, Nat.le_of_ble_eq_true rfl⟩ ⟨Nat.le_refl _, Nat.le_refl _⟩ rfl rfl (Nat.le_of_ble_eq_true rfl) dX10_aFamily_203 h (fun r28 D28 h => ?_)
        obtain ⟨s29, h⟩ := h
        exact go_zreturn (Nat.le_refl _) (Nat.le_refl _) rfl s29 dX10_aFamily_206 h
    · have h := h.2 c11
      refine go_aload_n 0 dX10_aFamily_170 rfl rfl ?_
      refine go_iconst dX10_aFamily_171 ?_
      refine go_vI (M := MX10_fails) [vI 2] [] mv_X10_160 (hL.1 107 _ rfl) rfl (by decide) ⟨Nat.le_of_ble_eq_true rfl, Nat.le_of_ble_eq_true rfl⟩ ⟨Nat.le_refl _, Nat.le_refl _⟩ rfl rfl (Nat.le_of_ble_eq_true rfl) dX10_aFamily_172 h (fun r31 D31 h => ?_)
      obtain ⟨s32, h⟩ := h
      exact go_zreturn (Nat.le_refl _) (Nat.le_refl _) rfl s32 dX10_aFamily_175 h
theorem s_X10_part {l : Launch} {E : Ev} {Q : Int → Sh → Dm → Prop} {G : Sh} {D : Dm} (hL : Lay G)  (h : C0 l E MX10_keyWord 0 [vR E 107] G D (fun r2 D2 => ((-2147483648 ≤ r2 ∧ r2 < 2147483648)) ∧ ((r2 ≠ 0 → ((r2 < 1 → ((r2 ≠ 5 → C0 l E MX10_fails 0 [vR E 107, vI 2] G D2 (fun r10 D10 => ((-2147483648 ≤ r10 ∧ r10 < 2147483648)) ∧ ((r10 ≠ 0 → (((D10 107 11) = 4 → C0 l E MX10_ahead 2 [vR E 107] G D10 (fun r17 D17 => Q 1 G D17)) ∧ ((D10 107 11) ≠ 4 → C0 l E MX10_fails 0 [vR E 107, vI 2] G D10 (fun r20 D20 => ((r20 = 0 ∨ r20 = 1)) ∧ Q r20 G D20)))) ∧ (r10 = 0 → Q 0 G D10)))) ∧ (r2 = 5 → C0 l E MX10_aFamily 0 [vR E 107] G D2 (fun r24 D24 => ((-2147483648 ≤ r24 ∧ r24 < 2147483648)) ∧ ((r24 ≠ 0 → (((D24 107 11) = 4 → C0 l E MX10_ahead 2 [vR E 107] G D24 (fun r31 D31 => Q 1 G D31)) ∧ ((D24 107 11) ≠ 4 → C0 l E MX10_fails 0 [vR E 107, vI 2] G D24 (fun r34 D34 => ((r34 = 0 ∨ r34 = 1)) ∧ Q r34 G D34)))) ∧ (r24 = 0 → Q 0 G D24)))))) ∧ (1 ≤ r2 → ((5 ≤ r2 → ((r2 ≠ 5 → C0 l E MX10_fails 0 [vR E 107, vI 2] G D2 (fun r42 D42 => ((-2147483648 ≤ r42 ∧ r42 < 2147483648)) ∧ ((r42 ≠ 0 → (((D42 107 11) = 4 → C0 l E MX10_ahead 2 [vR E 107] G D42 (fun r49 D49 => Q 1 G D49)) ∧ ((D42 107 11) ≠ 4 → C0 l E MX10_fails 0 [vR E 107, vI 2] G D42 (fun r52 D52 => ((r52 = 0 ∨ r52 = 1)) ∧ Q r52 G D52)))) ∧ (r42 = 0 → Q 0 G D42)))) ∧ (r2 = 5 → C0 l E MX10_aFamily 0 [vR E 107] G D2 (fun r56 D56 => ((-2147483648 ≤ r56 ∧ r56 < 2147483648)) ∧ ((r56 ≠ 0 → (((D56 107 11) = 4 → C0 l E MX10_ahead 2 [vR E 107] G D56 (fun r63 D63 => Q 1 G D63)) ∧ ((D56 107 11) ≠ 4 → C0 l E MX10_fails 0 [vR E 107, vI 2] G D56 (fun r66 D66 => ((r66 = 0 ∨ r66 = 1)) ∧ Q r66 G D66)))) ∧ (r56 = 0 → Q 0 G D56)))))) ∧ (r2 < 5 → C0 l E MX10_aHarm 0 [vR E 107, vI (r2 - 1)] G D2 (fun r70 D70 => ((-2147483648 ≤ r70 ∧ r70 < 2147483648)) ∧ ((r70 ≠ 0 → (((D70 107 11) = 4 → C0 l E MX10_ahead 2 [vR E 107] G D70 (fun r77 D77 => Q 1 G D77)) ∧ ((D70 107 11) ≠ 4 → C0 l E MX10_fails 0 [vR E 107, vI 2] G D70 (fun r80 D80 => ((r80 = 0 ∨ r80 = 1)) ∧ Q r80 G D80)))) ∧ (r70 = 0 → Q 0 G D70)))))))) ∧ (r2 = 0 → C0 l E MX10_aStrip 0 [vR E 107] G D2 (fun r84 D84 => ((-2147483648 ≤ r84 ∧ r84 < 2147483648)) ∧ ((r84 ≠ 0 → (((D84 107 11) = 4 → C0 l E MX10_ahead 2 [vR E 107] G D84 (fun r91 D91 => Q 1 G D91)) ∧ ((D84 107 11) ≠ 4 → C0 l E MX10_fails 0 [vR E 107, vI 2] G D84 (fun r94 D94 => ((r94 = 0 ∨ r94 = 1)) ∧ Q r94 G D94)))) ∧ (r84 = 0 → Q 0 G D84))))))) : Ct l E MX10_part 0 0 0 [vR E 107] G D Q := by
  refine Ct.of (by decide) (Nat.le_of_ble_eq_true rfl) ?_
  show KX10_part l E Q 0 [(0, vR E 107)] G D
  refine go_aload_n 0 dX10_part_0 rfl rfl ?_
  refine go_vI (M := MX10_keyWord) [] [] mv_X10_157 (hL.1 107 _ rfl) rfl (by decide) ⟨Nat.le_of_ble_eq_true rfl, Nat.le_of_ble_eq_true rfl⟩ ⟨Nat.le_refl _, Nat.le_refl _⟩ rfl rfl (Nat.le_of_ble_eq_true rfl) dX10_part_1 h (fun r2 D2 h => ?_)
  obtain ⟨s3, h⟩ := h
  refine go_istore_n [1, 0] (L' := [(0, vR E 107), (1, vI r2)]) dX10_part_4 rfl (by decide) rfl ?_
  refine go_iload_n 1 dX10_part_5 rfl rfl ?_
  refine go_if_ne 16 dX10_part_6 (by decide) s3 (fun c4 => ?_) (fun c4 => ?_)
  · have h := h.1 c4
    refine go_iload_n 1 dX10_part_16 rfl rfl ?_
    refine go_iconst dX10_part_17 ?_
    refine go_icmp_lt 36 dX10_part_18 (by decide) s3 (by decide) (fun c6 => ?_) (fun c6 => ?_)
    · have h := h.1 c6
      refine go_iload_n 1 dX10_part_36 rfl rfl ?_
      refine go_iconst dX10_part_37 ?_
      refine go_icmp_ne 48 dX10_part_38 (by decide) s3 (by decide) (fun c8 => ?_) (fun c8 => ?_)
      · have h := h.1 c8
        refine go_aload_n 0 dX10_part_48 rfl rfl ?_
        refine go_iconst dX10_part_49 ?_
        refine go_vI (M := MX10_fails) [vI 2] [] mv_X10_160 (hL.1 107 _ rfl) rfl (by decide) ⟨Nat.le_of_ble_eq_true rfl, Nat.le_of_ble_eq_true rfl⟩ ⟨Nat.le_refl _, Nat.le_refl _⟩ rfl rfl (Nat.le_of_ble_eq_true rfl) dX10_part_50 h (fun r10 D10 h => ?_)
        obtain ⟨s11, h⟩ := h
        refine go_istore_n [1, 2, 0] (L' := [(0, vR E 107), (1, vI r2), (2, vI r10)]) dX10_part_53 rfl (by decide) rfl ?_
        refine go_iload_n 2 dX10_part_54 rfl rfl ?_
        refine go_if_ne 60 dX10_part_55 (by decide) s11 (fun c12 => ?_) (fun c12 => ?_)
        · have h := h.1 c12
          refine go_aload_n 0 dX10_part_60 rfl rfl ?_
          refine go_getI 11 (i := 11) f_X10_128 rfl (hL.1 107 _ rfl) dX10_part_61 ?_
          refine go_iconst dX10_part_64 ?_
          refine go_rngI (c := 107) (i := 11) (hL.1 107 _ rfl) rfl (fun (q14 : -2147483648 ≤ (D10 107 11) ∧ (D10 107 11) < 2147483648) => ?_)
          refine go_icmp_eq 74 dX10_part_65 (by decide) q14 (by decide) (fun c15 => ?_) (fun c15 => ?_)
          · have h := h.1 c15
            refine go_aload_n 0 dX10_part_74 rfl rfl ?_
            refine go_vV (M := MX10_ahead) [] [] mv_X10_163 (hL.1 107 _ rfl) rfl (by decide) ⟨Nat.le_of_ble_eq_true rfl, Nat.le_of_ble_eq_true rfl⟩ ⟨Nat.le_refl _, Nat.le_refl _⟩ rfl rfl (Nat.le_of_ble_eq_true rfl) dX10_part_75 h (fun r17 D17 h => ?_)
            refine go_iconst dX10_part_78 ?_
            exact go_zreturn (Nat.le_refl _) (Nat.le_refl _) rfl (by decide) dX10_part_79 h
          · have h := h.2 c15
            refine go_aload_n 0 dX10_part_68 rfl rfl ?_
            refine go_iconst dX10_part_69 ?_
            refine go_vI (M := MX10_fails) [vI 2] [] mv_X10_160 (hL.1 107 _ rfl) rfl (by decide) ⟨Nat.le_of_ble_eq_true rfl, Nat.le_of_ble_eq_true rfl⟩ ⟨Nat.le_refl _, Nat.le_refl _⟩ rfl rfl (Nat.le_of_ble_eq_true rfl) dX10_part_70 h (fun r20 D20 h => ?_)
            obtain ⟨s21, h⟩ := h
            exact go_zreturn (Nat.le_refl _) (Nat.le_refl _) rfl s21 dX10_part_73 h
        · have h := h.2 c12
          refine go_iconst dX10_part_58 ?_
          exact go_zreturn (Nat.le_refl _) (Nat.le_refl _) rfl (by decide) dX10_part_59 h
      · have h := h.2 c8
        refine go_aload_n 0 dX10_part_41 rfl rfl ?_
        refine go_vI (M := MX10_aFamily) [] [] mv_X10_191 (hL.1 107 _ rfl) rfl (by decide) ⟨Nat.le_of_ble_eq_true rfl, Nat.le_of_ble_eq_true rfl⟩ ⟨Nat.le_refl _, Nat.le_refl _⟩ rfl rfl (Nat.le_of_ble_eq_true rfl) dX10_part_42 h (fun r24 D24 h => ?_)
        obtain ⟨s25, h⟩ := h
        refine go_goto 53 dX10_part_45 (by decide) ?_
        refine go_istore_n [1, 2, 0] (L' := [(0, vR E 107), (1, vI r2), (2, vI r24)]) dX10_part_53 rfl (by decide) rfl ?_
        refine go_iload_n 2 dX10_part_54 rfl rfl ?_
        refine go_if_ne 60 dX10_part_55 (by decide) s25 (fun c26 => ?_) (fun c26 => ?_)
        · have h := h.1 c26
          refine go_aload_n 0 dX10_part_60 rfl rfl ?_
          refine go_getI 11 (i := 11) f_X10_128 rfl (hL.1 107 _ rfl) dX10_part_61 ?_
          refine go_iconst dX10_part_64 ?_
          refine go_rngI (c := 107) (i := 11) (hL.1 107 _ rfl) rfl (fun (q28 : -2147483648 ≤ (D24 107 11) ∧ (D24 107 11) < 2147483648) => ?_)
          refine go_icmp_eq 74 dX10_part_65 (by decide) q28 (by decide) (fun c29 => ?_) (fun c29 => ?_)
          · have h := h.1 c29
            refine go_aload_n 0 dX10_part_74 rfl rfl ?_
            refine go_vV (M := MX10_ahead) [] [] mv_X10_163 (hL.1 107 _ rfl) rfl (by decide) ⟨Nat.le_of_ble_eq_true rfl, Nat.le_of_ble_eq_true rfl⟩ ⟨Nat.le_refl _, Nat.le_refl _⟩ rfl rfl (Nat.le_of_ble_eq_true rfl) dX10_part_75 h (fun r31 D31 h => ?_)
            refine go_iconst dX10_part_78 ?_
            exact go_zreturn (Nat.le_refl _) (Nat.le_refl _) rfl (by decide) dX10_part_79 h
          · have h := h.2 c29
            refine go_aload_n 0 dX10_part_68 rfl rfl ?_
            refine go_iconst dX10_part_69 ?_
            refine go_vI (M := MX10_fails) [vI 2] [] mv_X10_160 (hL.1 107 _ rfl) rfl (by decide) ⟨Nat.le_of_ble_eq_true rfl, Nat.le_of_ble_eq_true rfl⟩ ⟨Nat.le_refl _, Nat.le_refl _⟩ rfl rfl (Nat.le_of_ble_eq_true rfl) dX10_part_70 h (fun r34 D34 h => ?_)
            obtain ⟨s35, h⟩ := h
            exact go_zreturn (Nat.le_refl _) (Nat.le_refl _) rfl s35 dX10_part_73 h
        · have h := h.2 c26
          refine go_iconst dX10_part_58 ?_
          exact go_zreturn (Nat.le_refl _) (Nat.le_refl _) rfl (by decide) dX10_part_59 h
    · have h := h.2 c6
      refine go_iload_n 1 dX10_part_21 rfl rfl ?_
      refine go_iconst dX10_part_22 ?_
      refine go_icmp_ge 36 dX10_part_23 (by decide) s3 (by decide) (fun c38 => ?_) (fun c38 => ?_)
      · have h := h.1 c38
        refine go_iload_n 1 dX10_part_36 rfl rfl ?_
        refine go_iconst dX10_part_37 ?_
        refine go_icmp_ne 48 dX10_part_38 (by decide) s3 (by decide) (fun c40 => ?_) (fun c40 => ?_)
        · have h := h.1 c40
          refine go_aload_n 0 dX10_part_48 rfl rfl ?_
          refine go_iconst dX10_part_49 ?_
          refine go_vI (M := MX10_fails) [vI 2] [] mv_X10_160 (hL.1 107 _ rfl) rfl (by decide) ⟨Nat.le_of_ble_eq_true rfl, Nat.le_of_ble_eq_true rfl⟩ ⟨Nat.le_refl _, Nat.le_refl _⟩ rfl rfl (Nat.le_of_ble_eq_true rfl) dX10_part_50 h (fun r42 D42 h => ?_)
          obtain ⟨s43, h⟩ := h
          refine go_istore_n [1, 2, 0] (L' := [(0, vR E 107), (1, vI r2), (2, vI r42)]) dX10_part_53 rfl (by decide) rfl ?_
          refine go_iload_n 2 dX10_part_54 rfl rfl ?_
          refine go_if_ne 60 dX10_part_55 (by decide) s43 (fun c44 => ?_) (fun c44 => ?_)
          · have h := h.1 c44
            refine go_aload_n 0 dX10_part_60 rfl rfl ?_
            refine go_getI 11 (i := 11) f_X10_128 rfl (hL.1 107 _ rfl) dX10_part_61 ?_
            refine go_iconst dX10_part_64 ?_
            refine go_rngI (c := 107) (i := 11) (hL.1 107 _ rfl) rfl (fun (q46 : -2147483648 ≤ (D42 107 11) ∧ (D42 107 11) < 2147483648) => ?_)
            refine go_icmp_eq 74 dX10_part_65 (by decide) q46 (by decide) (fun c47 => ?_) (fun c47 => ?_)
            · have h := h.1 c47
              refine go_aload_n 0 dX10_part_74 rfl rfl ?_
              refine go_vV (M := MX10_ahead) [] [] mv_X10_163 (hL.1 107 _ rfl) rfl (by decide) ⟨Nat.le_of_ble_eq_true rfl, Nat.le_of_ble_eq_true rfl⟩ ⟨Nat.le_refl _, Nat.le_refl _⟩ rfl rfl (Nat.le_of_ble_eq_true rfl) dX10_part_75 h (fun r49 D49 h => ?_)
              refine go_iconst dX10_part_78 ?_
              exact go_zreturn (Nat.le_refl _) (Nat.le_refl _) rfl (by decide) dX10_part_79 h
            · have h := h.2 c47
              refine go_aload_n 0 dX10_part_68 rfl rfl ?_
              refine go_iconst dX10_part_69 ?_
              refine go_vI (M := MX10_fails) [vI 2] [] mv_X10_160 (hL.1 107 _ rfl) rfl (by decide) ⟨Nat.le_of_ble_eq_true rfl, Nat.le_of_ble_eq_true rfl⟩ ⟨Nat.le_refl _, Nat.le_refl _⟩ rfl rfl (Nat.le_of_ble_eq_true rfl) dX10_part_70 h (fun r52 D52 h => ?_)
              obtain ⟨s53, h⟩ := h
              exact go_zreturn (Nat.le_refl _) (Nat.le_refl _) rfl s53 dX10_part_73 h
          · have h := h.2 c44
            refine go_iconst dX10_part_58 ?_
            exact go_zreturn (Nat.le_refl _) (Nat.le_refl _) rfl (by decide) dX10_part_59 h
        · have h := h.2 c40
          refine go_aload_n 0 dX10_part_41 rfl rfl ?_
          refine go_vI (M := MX10_aFamily) [] [] mv_X10_191 (hL.1 107 _ rfl) rfl (by decide) ⟨Nat.le_of_ble_eq_true rfl, Nat.le_of_ble_eq_true rfl⟩ ⟨Nat.le_refl _, Nat.le_refl _⟩ rfl rfl (Nat.le_of_ble_eq_true rfl) dX10_part_42 h (fun r56 D56 h => ?_)
          obtain ⟨s57, h⟩ := h
          refine go_goto 53 dX10_part_45 (by decide) ?_
          refine go_istore_n [1, 2, 0] (L' := [(0, vR E 107), (1, vI r2), (2, vI r56)]) dX10_part_53 rfl (by decide) rfl ?_
          refine go_iload_n 2 dX10_part_54 rfl rfl ?_
          refine go_if_ne 60 dX10_part_55 (by decide) s57 (fun c58 => ?_) (fun c58 => ?_)
          · have h := h.1 c58
            refine go_aload_n 0 dX10_part_60 rfl rfl ?_
            refine go_getI 11 (i := 11) f_X10_128 rfl (hL.1 107 _ rfl) dX10_part_61 ?_
            refine go_iconst dX10_part_64 ?_
            refine go_rngI (c := 107) (i := 11) (hL.1 107 _ rfl) rfl (fun (q60 : -2147483648 ≤ (D56 107 11) ∧ (D56 107 11) < 2147483648) => ?_)
            refine go_icmp_eq 74 dX10_part_65 (by decide) q60 (by decide) (fun c61 => ?_) (fun c61 => ?_)
            · have h := h.1 c61
              refine go_aload_n 0 dX10_part_74 rfl rfl ?_
              refine go_vV (M := MX10_ahead) [] [] mv_X10_163 (hL.1 107 _ rfl) rfl (by decide) ⟨Nat.le_of_ble_eq_true rfl, Nat.le_of_ble_eq_true rfl⟩ ⟨Nat.le_refl _, Nat.le_refl _⟩ rfl rfl (Nat.le_of_ble_eq_true rfl) dX10_part_75 h (fun r63 D63 h => ?_)
              refine go_iconst dX10_part_78 ?_
              exact go_zreturn (Nat.le_refl _) (Nat.le_refl _) rfl (by decide) dX10_part_79 h
            · have h := h.2 c61
              refine go_aload_n 0 dX10_part_68 rfl rfl ?_
              refine go_iconst dX10_part_69 ?_
              refine go_vI (M := MX10_fails) [vI 2] [] mv_X10_160 (hL.1 107 _ rfl) rfl (by decide) ⟨Nat.le_of_ble_eq_true rfl, Nat.le_of_ble_eq_true rfl⟩ ⟨Nat.le_refl _, Nat.le_refl _⟩ rfl rfl (Nat.le_of_ble_eq_true rfl) dX10_part_70 h (fun r66 D66 h => ?_)
              obtain ⟨s67, h⟩ := h
              exact go_zreturn (Nat.le_refl _) (Nat.le_refl _) rfl s67 dX10_part_73 h
          · have h := h.2 c58
            refine go_iconst dX10_part_58 ?_
            exact go_zreturn (Nat.le_refl _) (Nat.le_refl _) rfl (by decide) dX10_part_59 h
      · have h := h.2 c38
        refine go_aload_n 0 dX10_part_26 rfl rfl ?_
        refine go_iload_n 1 dX10_part_27 rfl rfl ?_
        refine go_iconst dX10_part_28 ?_
        refine go_isub dX10_part_29 ?_
        refine go_vI (M := MX10_aHarm) [vI (r2 - 1)] [] mv_X10_188 (hL.1 107 _ rfl) rfl (by decide) ⟨Nat.le_of_ble_eq_true rfl, Nat.le_of_ble_eq_true rfl⟩ ⟨Nat.le_refl _, Nat.le_refl _⟩ rfl rfl (Nat.le_of_ble_eq_true rfl) dX10_part_30 h (fun r70 D70 h => ?_)
        obtain ⟨s71, h⟩ := h
        refine go_goto 53 dX10_part_33 (by decide) ?_
        refine go_istore_n [1, 2, 0] (L' := [(0, vR E 107), (1, vI r2), (2, vI r70)]) dX10_part_53 rfl (by decide) rfl ?_
        refine go_iload_n 2 dX10_part_54 rfl rfl ?_
        refine go_if_ne 60 dX10_part_55 (by decide) s71 (fun c72 => ?_) (fun c72 => ?_)
        · have h := h.1 c72
          refine go_aload_n 0 dX10_part_60 rfl rfl ?_
          refine go_getI 11 (i := 11) f_X10_128 rfl (hL.1 107 _ rfl) dX10_part_61 ?_
          refine go_iconst dX10_part_64 ?_
          refine go_rngI (c := 107) (i := 11) (hL.1 107 _ rfl) rfl (fun (q74 : -2147483648 ≤ (D70 107 11) ∧ (D70 107 11) < 2147483648) => ?_)
          refine go_icmp_eq 74 dX10_part_65 (by decide) q74 (by decide) (fun c75 => ?_) (fun c75 => ?_)
          · have h := h.1 c75
            refine go_aload_n 0 dX10_part_74 rfl rfl ?_
            refine go_vV (M := MX10_ahead) [] [] mv_X10_163 (hL.1 107 _ rfl) rfl (by decide) ⟨Nat.le_of_ble_eq_true rfl, Nat.le_of_ble_eq_true rfl⟩ ⟨Nat.le_refl _, Nat.le_refl _⟩ rfl rfl (Nat.le_of_ble_eq_true rfl) dX10_part_75 h (fun r77 D77 h => ?_)
            refine go_iconst dX10_part_78 ?_
            exact go_zreturn (Nat.le_refl _) (Nat.le_refl _) rfl (by decide) dX10_part_79 h
          · have h := h.2 c75
            refine go_aload_n 0 dX10_part_68 rfl rfl ?_
            refine go_iconst dX10_part_69 ?_
            refine go_vI (M := MX10_fails) [vI 2] [] mv_X10_160 (hL.1 107 _ rfl) rfl (by decide) ⟨Nat.le_of_ble_eq_true rfl, Nat.le_of_ble_eq_true rfl⟩ ⟨Nat.le_refl _, Nat.le_refl _⟩ rfl rfl (Nat.le_of_ble_eq_true rfl) dX10_part_70 h (fun r80 D80 h => ?_)
            obtain ⟨s81, h⟩ := h
            exact go_zreturn (Nat.le_refl _) (Nat.le_refl _) rfl s81 dX10_part_73 h
        · have h := h.2 c72
          refine go_iconst dX10_part_58 ?_
          exact go_zreturn (Nat.le_refl _) (Nat.le_refl _) rfl (by decide) dX10_part_59 h
  · have h := h.2 c4
    refine go_aload_n 0 dX10_part_9 rfl rfl ?_
    refine go_vI (M := MX10_aStrip) [] [] mv_X10_185 (hL.1 107 _ rfl) rfl (by decide) ⟨Nat.le_of_ble_eq_true rfl, Nat.le_of_ble_eq_true rfl⟩ ⟨Nat.le_refl _, Nat.le_refl _⟩ rfl rfl (Nat.le_of_ble_eq_true rfl) dX10_part_10 h (fun r84 D84 h => ?_)
    obtain ⟨s85, h⟩ := h
    refine go_goto 53 dX10_part_13 (by decide) ?_
    refine go_istore_n [1, 2, 0] (L' := [(0, vR E 107), (1, vI r2), (2, vI r84)]) dX10_part_53 rfl (by decide) rfl ?_
    refine go_iload_n 2 dX10_part_54 rfl rfl ?_
    refine go_if_ne 60 dX10_part_55 (by decide) s85 (fun c86 => ?_) (fun c86 => ?_)
    · have h := h.1 c86
      refine go_aload_n 0 dX10_part_60 rfl rfl ?_
      refine go_getI 11 (i := 11) f_X10_128 rfl (hL.1 107 _ rfl) dX10_part_61 ?_
      refine go_iconst dX10_part_64 ?_
      refine go_rngI (c := 107) (i := 11) (hL.1 107 _ rfl) rfl (fun (q88 : -2147483648 ≤ (D84 107 11) ∧ (D84 107 11) < 2147483648) => ?_)
      refine go_icmp_eq 74 dX10_part_65 (by decide) q88 (by decide) (fun c89 => ?_) (fun c89 => ?_)
      · have h := h.1 c89
        refine go_aload_n 0 dX10_part_74 rfl rfl ?_
        refine go_vV (M := MX10_ahead) [] [] mv_X10_163 (hL.1 107 _ rfl) rfl (by decide) ⟨Nat.le_of_ble_eq_true rfl, Nat.le_of_ble_eq_true rfl⟩ ⟨Nat.le_refl _, Nat.le_refl _⟩ rfl rfl (Nat.le_of_ble_eq_true rfl) dX10_part_75 h (fun r91 D91 h => ?_)
        refine go_iconst dX10_part_78 ?_
        exact go_zreturn (Nat.le_refl _) (Nat.le_refl _) rfl (by decide) dX10_part_79 h
      · have h := h.2 c89
        refine go_aload_n 0 dX10_part_68 rfl rfl ?_
        refine go_iconst dX10_part_69 ?_
        refine go_vI (M := MX10_fails) [vI 2] [] mv_X10_160 (hL.1 107 _ rfl) rfl (by decide) ⟨Nat.le_of_ble_eq_true rfl, Nat.le_of_ble_eq_true rfl⟩ ⟨Nat.le_refl _, Nat.le_refl _⟩ rfl rfl (Nat.le_of_ble_eq_true rfl) dX10_part_70 h (fun r94 D94 h => ?_)
        obtain ⟨s95, h⟩ := h
        exact go_zreturn (Nat.le_refl _) (Nat.le_refl _) rfl s95 dX10_part_73 h
    · have h := h.2 c86
      refine go_iconst dX10_part_58 ?_
      exact go_zreturn (Nat.le_refl _) (Nat.le_refl _) rfl (by decide) dX10_part_59 h
theorem s_X10_copies {l : Launch} {E : Ev} {Q : Int → Sh → Dm → Prop} {G : Sh} {D : Dm} (hL : Lay G) {v1 v2 : Int}  (h : KX10_copies l E Q 2 [(0, vR E 107), (1, vI v1), (2, vI v2), (3, vI 0)] G D) : Ct l E MX10_copies 2 0 0 [vR E 107, vI v1, vI v2] G D Q := by
  refine Ct.of (by decide) (Nat.le_of_ble_eq_true rfl) ?_
  show KX10_copies l E Q 0 [(0, vR E 107), (1, vI v1), (2, vI v2)] G D
  refine go_iconst dX10_copies_0 ?_
  refine go_istore_n [1, 2, 3, 0] (L' := [(0, vR E 107), (1, vI v1), (2, vI v2), (3, vI 0)]) dX10_copies_1 rfl (by decide) rfl ?_
  exact h
theorem s_X10_copies_2 {l : Launch} {E : Ev} {Q : Int → Sh → Dm → Prop} {G : Sh} {D : Dm} (hL : Lay G) {v1 v2 v3 : Int}  (h : ((-2147483648 ≤ v3 ∧ v3 < 2147483648)) ∧ ((100 ≤ v3 → Q 0 G D) ∧ (v3 < 100 → ((0 ≤ (v1 + v3) ∧ (v1 + v3) < 500) ∧ (0 ≤ (v2 + v3) ∧ (v2 + v3) < 500)) ∧ KX10_copies l E Q 2 [(0, vR E 107), (1, vI v1), (2, vI v2), (3, vI (v3 + 1))] G (upd2 D 108 (v2 + v3) (D 108 (v1 + v3)))))) : KX10_copies l E Q 2 [(0, vR E 107), (1, vI v1), (2, vI v2), (3, vI v3)] G D := by
  obtain ⟨s1, h⟩ := h
  refine go_iload_n 3 dX10_copies_2 rfl rfl ?_
  refine go_bipush dX10_copies_3 (by decide) ?_
  refine go_icmp_ge 30 dX10_copies_5 (by decide) s1 (by decide) (fun c2 => ?_) (fun c2 => ?_)
  · have h := h.1 c2
    exact go_return (Nat.le_refl _) (Nat.le_refl _) rfl dX10_copies_30 h
  · have h := h.2 c2
    obtain ⟨s4, h⟩ := h
    refine go_aload_n 0 dX10_copies_8 rfl rfl ?_
    refine go_getR 0 f_X10_7 rfl (hL.1 107 _ rfl) (hL.2.1 107 0 _ rfl (by decide)) dX10_copies_9 ?_
    refine go_iload_n 2 dX10_copies_12 rfl rfl ?_
    refine go_iload_n 3 dX10_copies_13 rfl rfl ?_
    refine go_iadd dX10_copies_14 ?_
    refine go_aload_n 0 dX10_copies_15 rfl rfl ?_
    refine go_getR 0 f_X10_7 rfl (hL.1 107 _ rfl) (hL.2.1 107 0 _ rfl (by decide)) dX10_copies_16 ?_
    refine go_iload_n 1 dX10_copies_19 rfl rfl ?_
    refine go_iload_n 3 dX10_copies_20 rfl rfl ?_
    refine go_iadd dX10_copies_21 ?_
    refine go_iaload (hL.1 108 _ rfl) (b := 500) rfl (by decide) s4.1 dX10_copies_22 ?_
    refine go_rngI (c := 108) (i := (v1 + v3)) (hL.1 108 _ rfl) rfl (fun (q5 : -2147483648 ≤ (D 108 (v1 + v3)) ∧ (D 108 (v1 + v3)) < 2147483648) => ?_)
    refine go_iastore (hL.1 108 _ rfl) (b := 500) rfl (by decide) s4.2 q5 dX10_copies_23 ?_
    refine go_iinc 3 [1, 2, 3, 0] (L' := [(0, vR E 107), (1, vI v1), (2, vI v2), (3, vI (v3 + 1))]) dX10_copies_24 (by decide) rfl rfl ?_
    refine go_goto 2 dX10_copies_27 (by decide) ?_
    exact h
theorem s_X10_village {l : Launch} {E : Ev} {Q : Int → Sh → Dm → Prop} {G : Sh} {D : Dm} (hL : Lay G) {v1 : Int}  (h : ((-2147483648 ≤ v1 ∧ v1 < 2147483648)) ∧ ((v1 < 0 → Q (-1) G (upd2 D 107 1 1)) ∧ (0 ≤ v1 → ((v1 ≤ (D 107 9) → KX10_village l E Q 25 [(0, vR E 107), (1, vI v1), (2, vI 0)] G (upd2 D 107 10 v1)) ∧ ((D 107 9) < v1 → Q (-1) G (upd2 D 107 1 1)))))) : Ct l E MX10_village 0 0 0 [vR E 107, vI v1] G D Q := by
  refine Ct.of (by decide) (Nat.le_of_ble_eq_true rfl) ?_
  show KX10_village l E Q 0 [(0, vR E 107), (1, vI v1)] G D
  obtain ⟨s1, h⟩ := h
  refine go_iload_n 1 dX10_village_0 rfl rfl ?_
  refine go_if_lt 12 dX10_village_1 (by decide) s1 (fun c2 => ?_) (fun c2 => ?_)
  · have h := h.1 c2
    refine go_aload_n 0 dX10_village_12 rfl rfl ?_
    refine go_iconst dX10_village_13 ?_
    refine go_vIp (M := MX10_refuse) [vI 1] [] mv_X10_194 (hL.1 107 _ rfl) rfl (by decide) ⟨Nat.le_of_ble_eq_true rfl, Nat.le_of_ble_eq_true rfl⟩ ⟨Nat.le_refl _, Nat.le_refl _⟩ rfl rfl (Nat.le_of_ble_eq_true rfl) dX10_village_14 (p_X10_refuse hL (by decide)) ?_
    exact go_ireturn (Nat.le_refl _) (Nat.le_refl _) rfl dX10_village_17 h
  · have h := h.2 c2
    refine go_iload_n 1 dX10_village_4 rfl rfl ?_
    refine go_aload_n 0 dX10_village_5 rfl rfl ?_
    refine go_getI 9 (i := 9) f_X10_105 rfl (hL.1 107 _ rfl) dX10_village_6 ?_
    refine go_rngI (c := 107) (i := 9) (hL.1 107 _ rfl) rfl (fun (q6 : -2147483648 ≤ (D 107 9) ∧ (D 107 9) < 2147483648) => ?_)
    refine go_icmp_le 18 dX10_village_9 (by decide) s1 q6 (fun c7 => ?_) (fun c7 => ?_)
    · have h := h.1 c7
      refine go_aload_n 0 dX10_village_18 rfl rfl ?_
      refine go_iload_n 1 dX10_village_19 rfl rfl ?_
      refine go_putI 10 (i := 10) s1 f_X10_112 rfl (hL.1 107 _ rfl) dX10_village_20 ?_
      refine go_iconst dX10_village_23 ?_
      refine go_istore_n [1, 2, 0] (L' := [(0, vR E 107), (1, vI v1), (2, vI 0)]) dX10_village_24 rfl (by decide) rfl ?_
      exact h
    · have h := h.2 c7
      refine go_aload_n 0 dX10_village_12 rfl rfl ?_
      refine go_iconst dX10_village_13 ?_
      refine go_vIp (M := MX10_refuse) [vI 1] [] mv_X10_194 (hL.1 107 _ rfl) rfl (by decide) ⟨Nat.le_of_ble_eq_true rfl, Nat.le_of_ble_eq_true rfl⟩ ⟨Nat.le_refl _, Nat.le_refl _⟩ rfl rfl (Nat.le_of_ble_eq_true rfl) dX10_village_14 (p_X10_refuse hL (by decide)) ?_
      exact go_ireturn (Nat.le_refl _) (Nat.le_refl _) rfl dX10_village_17 h
theorem s_X10_village_25 {l : Launch} {E : Ev} {Q : Int → Sh → Dm → Prop} {G : Sh} {D : Dm} (hL : Lay G) {v1 v2 : Int}  (h : ((-2147483648 ≤ v2 ∧ v2 < 2147483648) ∧ (-2147483648 ≤ v1 ∧ v1 < 2147483648)) ∧ ((v1 ≤ v2 → KX10_village l E Q 70 [(0, vR E 107), (1, vI v1), (2, vI 0)] G (upd2 (upd2 (upd2 (upd2 D 107 9 0) 107 17 0) 107 16 (-1)) 107 13 0)) ∧ (v2 < v1 → ((0 ≤ v2 ∧ v2 < 600) ∧ (-128 ≤ (D 112 v2) ∧ (D 112 v2) < 128)) ∧ KX10_village l E Q 25 [(0, vR E 107), (1, vI v1), (2, vI (v2 + 1))] G (upd2 D 113 v2 (D 112 v2))))) : KX10_village l E Q 25 [(0, vR E 107), (1, vI v1), (2, vI v2)] G D := by
  obtain ⟨s1, h⟩ := h
  refine go_iload_n 2 dX10_village_25 rfl rfl ?_
  refine go_iload_n 1 dX10_village_26 rfl rfl ?_
  refine go_icmp_ge 48 dX10_village_27 (by decide) s1.1 s1.2 (fun c2 => ?_) (fun c2 => ?_)
  · have h := h.1 c2
    refine go_aload_n 0 dX10_village_48 rfl rfl ?_
    refine go_iconst dX10_village_49 ?_
    refine go_putI 9 (i := 9) (by decide) f_X10_105 rfl (hL.1 107 _ rfl) dX10_village_50 ?_
    refine go_aload_n 0 dX10_village_53 rfl rfl ?_
    refine go_iconst dX10_village_54 ?_
    refine go_putI 17 (i := 17) (by decide) f_X10_154 rfl (hL.1 107 _ rfl) dX10_village_55 ?_
    refine go_aload_n 0 dX10_village_58 rfl rfl ?_
    refine go_iconst dX10_village_59 ?_
    refine go_putI 16 (i := 16) (by decide) f_X10_38 rfl (hL.1 107 _ rfl) dX10_village_60 ?_
    refine go_aload_n 0 dX10_village_63 rfl rfl ?_
    refine go_iconst dX10_village_64 ?_
    refine go_putI 13 (i := 13) (by decide) f_X10_115 rfl (hL.1 107 _ rfl) dX10_village_65 ?_
    refine go_iconst dX10_village_68 ?_
    refine go_istore_n [1, 2, 0] (L' := [(0, vR E 107), (1, vI v1), (2, vI 0)]) dX10_village_69 rfl (by decide) rfl ?_
    exact h
  · have h := h.2 c2
    obtain ⟨s4, h⟩ := h
    refine go_aload_n 0 dX10_village_30 rfl rfl ?_
    refine go_getR 8 f_X10_31 rfl (hL.1 107 _ rfl) (hL.2.1 107 8 _ rfl (by decide)) dX10_village_31 ?_
    refine go_iload_n 2 dX10_village_34 rfl rfl ?_
    refine go_aload_n 0 dX10_village_35 rfl rfl ?_
    refine go_getR 7 f_X10_27 rfl (hL.1 107 _ rfl) (hL.2.1 107 7 _ rfl (by decide)) dX10_village_36 ?_
    refine go_iload_n 2 dX10_village_39 rfl rfl ?_
    refine go_baload (hL.1 112 _ rfl) (b := 600) rfl (by decide) s4.1 dX10_village_40 ?_
    refine go_bastore (hL.1 113 _ rfl) (b := 600) rfl (by decide) s4.1 s4.2 dX10_village_41 ?_
    refine go_iinc 2 [1, 2, 0] (L' := [(0, vR E 107), (1, vI v1), (2, vI (v2 + 1))]) dX10_village_42 (by decide) rfl rfl ?_
    refine go_goto 25 dX10_village_45 (by decide) ?_
    exact h
theorem s_X10_village_70 {l : Launch} {E : Ev} {Q : Int → Sh → Dm → Prop} {G : Sh} {D : Dm} (hL : Lay G) {v1 v2 : Int}  (h : ((-2147483648 ≤ v2 ∧ v2 < 2147483648)) ∧ ((100 ≤ v2 → C0 l E MX10_ahead 2 [vR E 107] G (upd2 (upd2 D 108 403 (D 108 3)) 108 404 (D 108 4)) (fun r6 D6 => (((D6 107 11) = 0 → KX10_village l E Q 138 [(0, vR E 107), (1, vI v1), (2, vI 0)] G D6) ∧ ((D6 107 11) ≠ 0 → KX10_village l E Q 138 [(0, vR E 107), (1, vI v1), (2, vI 1)] G D6)))) ∧ (v2 < 100 → ((0 ≤ (400 + v2) ∧ (400 + v2) < 500)) ∧ KX10_village l E Q 70 [(0, vR E 107), (1, vI v1), (2, vI (v2 + 1))] G (upd2 D 108 (400 + v2) 0)))) : KX10_village l E Q 70 [(0, vR E 107), (1, vI v1), (2, vI v2)] G D := by
  obtain ⟨s1, h⟩ := h
  refine go_iload_n 2 dX10_village_70 rfl rfl ?_
  refine go_bipush dX10_village_71 (by decide) ?_
  refine go_icmp_ge 93 dX10_village_73 (by decide) s1 (by decide) (fun c2 => ?_) (fun c2 => ?_)
  · have h := h.1 c2
    refine go_aload_n 0 dX10_village_93 rfl rfl ?_
    refine go_getR 0 f_X10_7 rfl (hL.1 107 _ rfl) (hL.2.1 107 0 _ rfl (by decide)) dX10_village_94 ?_
    refine go_sipush dX10_village_97 (by decide) ?_
    refine go_aload_n 0 dX10_village_100 rfl rfl ?_
    refine go_getR 0 f_X10_7 rfl (hL.1 107 _ rfl) (hL.2.1 107 0 _ rfl (by decide)) dX10_village_101 ?_
    refine go_iconst dX10_village_104 ?_
    refine go_iaload (hL.1 108 _ rfl) (b := 500) rfl (by decide) (by decide) dX10_village_105 ?_
    refine go_rngI (c := 108) (i := 3) (hL.1 108 _ rfl) rfl (fun (q4 : -2147483648 ≤ (D 108 3) ∧ (D 108 3) < 2147483648) => ?_)
    refine go_iastore (hL.1 108 _ rfl) (b := 500) rfl (by decide) (by decide) q4 dX10_village_106 ?_
    refine go_aload_n 0 dX10_village_107 rfl rfl ?_
    refine go_getR 0 f_X10_7 rfl (hL.1 107 _ rfl) (hL.2.1 107 0 _ rfl (by decide)) dX10_village_108 ?_
    refine go_sipush dX10_village_111 (by decide) ?_
    refine go_aload_n 0 dX10_village_114 rfl rfl ?_
    refine go_getR 0 f_X10_7 rfl (hL.1 107 _ rfl) (hL.2.1 107 0 _ rfl (by decide)) dX10_village_115 ?_
    refine go_iconst dX10_village_118 ?_
    refine go_iaload (hL.1 108 _ rfl) (b := 500) rfl (by decide) (by decide) dX10_village_119 ?_
    refine go_rngI (c := 108) (i := 4) (hL.1 108 _ rfl) rfl (fun (q5 : -2147483648 ≤ (D 108 4) ∧ (D 108 4) < 2147483648) => ?_)
    refine go_iastore (hL.1 108 _ rfl) (b := 500) rfl (by decide) (by decide) q5 dX10_village_120 ?_
    refine go_aload_n 0 dX10_village_121 rfl rfl ?_
    refine go_vV (M := MX10_ahead) [] [] mv_X10_163 (hL.1 107 _ rfl) rfl (by decide) ⟨Nat.le_of_ble_eq_true rfl, Nat.le_of_ble_eq_true rfl⟩ ⟨Nat.le_refl _, Nat.le_refl _⟩ rfl rfl (Nat.le_of_ble_eq_true rfl) dX10_village_122 h (fun r6 D6 h => ?_)
    refine go_aload_n 0 dX10_village_125 rfl rfl ?_
    refine go_getI 11 (i := 11) f_X10_128 rfl (hL.1 107 _ rfl) dX10_village_126 ?_
    refine go_rngI (c := 107) (i := 11) (hL.1 107 _ rfl) rfl (fun (q8 : -2147483648 ≤ (D6 107 11) ∧ (D6 107 11) < 2147483648) => ?_)
    refine go_if_eq 136 dX10_village_129 (by decide) q8 (fun c9 => ?_) (fun c9 => ?_)
    · have h := h.1 c9
      refine go_iconst dX10_village_136 ?_
      refine go_istore_n [1, 2, 0] (L' := [(0, vR E 107), (1, vI v1), (2, vI 0)]) dX10_village_137 rfl (by decide) rfl ?_
      exact h
    · have h := h.2 c9
      refine go_iconst dX10_village_132 ?_
      refine go_goto 137 dX10_village_133 (by decide) ?_
      refine go_istore_n [1, 2, 0] (L' := [(0, vR E 107), (1, vI v1), (2, vI 1)]) dX10_village_137 rfl (by decide) rfl ?_
      exact h
  · have h := h.2 c2
    obtain ⟨s12, h⟩ := h
    refine go_aload_n 0 dX10_village_76 rfl rfl ?_
    refine go_getR 0 f_X10_7 rfl (hL.1 107 _ rfl) (hL.2.1 107 0 _ rfl (by decide)) dX10_village_77 ?_
    refine go_sipush dX10_village_80 (by decide) ?_
    refine go_iload_n 2 dX10_village_83 rfl rfl ?_
    refine go_iadd dX10_village_84 ?_
    refine go_iconst dX10_village_85 ?_
    refine go_iastore (hL.1 108 _ rfl) (b := 500) rfl (by decide) s12 (by decide) dX10_village_86 ?_
    refine go_iinc 2 [1, 2, 0] (L' := [(0, vR E 107), (1, vI v1), (2, vI (v2 + 1))]) dX10_village_87 (by decide) rfl rfl ?_
    refine go_goto 70 dX10_village_90 (by decide) ?_
    exact h
theorem s_X10_village_138 {l : Launch} {E : Ev} {Q : Int → Sh → Dm → Prop} {G : Sh} {D : Dm} (hL : Lay G) {v1 v2 : Int}  (h : ((-2147483648 ≤ v2 ∧ v2 < 2147483648)) ∧ ((v2 = 0 → (((D 107 17) ≤ 0 → C0 l E MX10_copies 2 [vR E 107, vI 400, vI 0] G (upd2 D 107 15 (D 107 17)) (fun r7 D7 => Q (D7 108 0) G (upd2 D7 107 1 0))) ∧ (0 < (D 107 17) → Q (-1) G (upd2 (upd2 D 107 15 (D 107 17)) 107 1 9)))) ∧ (v2 ≠ 0 → C0 l E MX10_part 0 [vR E 107] G D (fun r13 D13 => ((-2147483648 ≤ r13 ∧ r13 < 2147483648)) ∧ ((r13 = 0 → KX10_village l E Q 138 [(0, vR E 107), (1, vI v1), (2, vI 0)] G D13) ∧ (r13 ≠ 0 → (((D13 107 11) = 0 → KX10_village l E Q 138 [(0, vR E 107), (1, vI v1), (2, vI 0)] G D13) ∧ ((D13 107 11) ≠ 0 → KX10_village l E Q 138 [(0, vR E 107), (1, vI v1), (2, vI 1)] G D13)))))))) : KX10_village l E Q 138 [(0, vR E 107), (1, vI v1), (2, vI v2)] G D := by
  obtain ⟨s1, h⟩ := h
  refine go_iload_n 2 dX10_village_138 rfl rfl ?_
  refine go_if_eq 165 dX10_village_139 (by decide) s1 (fun c2 => ?_) (fun c2 => ?_)
  · have h := h.1 c2
    refine go_aload_n 0 dX10_village_165 rfl rfl ?_
    refine go_aload_n 0 dX10_village_166 rfl rfl ?_
    refine go_getI 17 (i := 17) f_X10_154 rfl (hL.1 107 _ rfl) dX10_village_167 ?_
    refine go_rngI (c := 107) (i := 17) (hL.1 107 _ rfl) rfl (fun (q4 : -2147483648 ≤ (D 107 17) ∧ (D 107 17) < 2147483648) => ?_)
    refine go_putI 15 (i := 15) q4 f_X10_34 rfl (hL.1 107 _ rfl) dX10_village_170 ?_
    refine go_aload_n 0 dX10_village_173 rfl rfl ?_
    refine go_getI 17 (i := 17) f_X10_154 rfl (hL.1 107 _ rfl) dX10_village_174 ?_
    refine go_if_le 187 dX10_village_177 (by decide) q4 (fun c5 => ?_) (fun c5 => ?_)
    · have h := h.1 c5
      refine go_aload_n 0 dX10_village_187 rfl rfl ?_
      refine go_sipush dX10_village_188 (by decide) ?_
      refine go_iconst dX10_village_191 ?_
      refine go_vV (M := MX10_copies) [vI 400, vI 0] [] mv_X10_200 (hL.1 107 _ rfl) rfl (by decide) ⟨Nat.le_of_ble_eq_true rfl, Nat.le_of_ble_eq_true rfl⟩ ⟨Nat.le_refl _, Nat.le_refl _⟩ rfl rfl (Nat.le_of_ble_eq_true rfl) dX10_village_192 h (fun r7 D7 h => ?_)
      refine go_aload_n 0 dX10_village_195 rfl rfl ?_
      refine go_aload_n 0 dX10_village_196 rfl rfl ?_
      refine go_getR 0 f_X10_7 rfl (hL.1 107 _ rfl) (hL.2.1 107 0 _ rfl (by decide)) dX10_village_197 ?_
      refine go_iconst dX10_village_200 ?_
      refine go_iaload (hL.1 108 _ rfl) (b := 500) rfl (by decide) (by decide) dX10_village_201 ?_
      refine go_vIp (M := MX10_gives) [vI (D7 108 0)] [] mv_X10_204 (hL.1 107 _ rfl) rfl (by decide) ⟨Nat.le_of_ble_eq_true rfl, Nat.le_of_ble_eq_true rfl⟩ ⟨Nat.le_refl _, Nat.le_refl _⟩ rfl rfl (Nat.le_of_ble_eq_true rfl) dX10_village_202 (p_X10_gives hL) ?_
      exact go_ireturn (Nat.le_refl _) (Nat.le_refl _) rfl dX10_village_205 h
    · have h := h.2 c5
      refine go_aload_n 0 dX10_village_180 rfl rfl ?_
      refine go_bipush dX10_village_181 (by decide) ?_
      refine go_vIp (M := MX10_refuse) [vI 9] [] mv_X10_194 (hL.1 107 _ rfl) rfl (by decide) ⟨Nat.le_of_ble_eq_true rfl, Nat.le_of_ble_eq_true rfl⟩ ⟨Nat.le_refl _, Nat.le_refl _⟩ rfl rfl (Nat.le_of_ble_eq_true rfl) dX10_village_183 (p_X10_refuse hL (by decide)) ?_
      exact go_ireturn (Nat.le_refl _) (Nat.le_refl _) rfl dX10_village_186 h
  · have h := h.2 c2
    refine go_aload_n 0 dX10_village_142 rfl rfl ?_
    refine go_vI (M := MX10_part) [] [] mv_X10_197 (hL.1 107 _ rfl) rfl (by decide) ⟨Nat.le_of_ble_eq_true rfl, Nat.le_of_ble_eq_true rfl⟩ ⟨Nat.le_refl _, Nat.le_refl _⟩ rfl rfl (Nat.le_of_ble_eq_true rfl) dX10_village_143 h (fun r13 D13 h => ?_)
    obtain ⟨s14, h⟩ := h
    refine go_if_eq 160 dX10_village_146 (by decide) s14 (fun c15 => ?_) (fun c15 => ?_)
    · have h := h.1 c15
      refine go_iconst dX10_village_160 ?_
      refine go_istore_n [1, 2, 0] (L' := [(0, vR E 107), (1, vI v1), (2, vI 0)]) dX10_village_161 rfl (by decide) rfl ?_
      refine go_goto 138 dX10_village_162 (by decide) ?_
      exact h
    · have h := h.2 c15
      refine go_aload_n 0 dX10_village_149 rfl rfl ?_
      refine go_getI 11 (i := 11) f_X10_128 rfl (hL.1 107 _ rfl) dX10_village_150 ?_
      refine go_rngI (c := 107) (i := 11) (hL.1 107 _ rfl) rfl (fun (q18 : -2147483648 ≤ (D13 107 11) ∧ (D13 107 11) < 2147483648) => ?_)
      refine go_if_eq 160 dX10_village_153 (by decide) q18 (fun c19 => ?_) (fun c19 => ?_)
      · have h := h.1 c19
        refine go_iconst dX10_village_160 ?_
        refine go_istore_n [1, 2, 0] (L' := [(0, vR E 107), (1, vI v1), (2, vI 0)]) dX10_village_161 rfl (by decide) rfl ?_
        refine go_goto 138 dX10_village_162 (by decide) ?_
        exact h
      · have h := h.2 c19
        refine go_iconst dX10_village_156 ?_
        refine go_goto 161 dX10_village_157 (by decide) ?_
        refine go_istore_n [1, 2, 0] (L' := [(0, vR E 107), (1, vI v1), (2, vI 1)]) dX10_village_161 rfl (by decide) rfl ?_
        refine go_goto 138 dX10_village_162 (by decide) ?_
        exact h
theorem s_X10_fault {l : Launch} {E : Ev} {Q : Int → Sh → Dm → Prop} {G : Sh} {D : Dm} (hL : Lay G) {v1 : Int}  (h : ((-2147483648 ≤ v1 ∧ v1 < 2147483648)) ∧ ((v1 ≠ 0 → ((v1 ≠ 1 → Q (-1) G D) ∧ (v1 = 1 → Q (D 107 16) G D))) ∧ (v1 = 0 → Q (D 107 15) G D))) : Ct l E MX10_fault 0 0 0 [vR E 107, vI v1] G D Q := by
  refine Ct.of (by decide) (Nat.le_of_ble_eq_true rfl) ?_
  show KX10_fault l E Q 0 [(0, vR E 107), (1, vI v1)] G D
  obtain ⟨s1, h⟩ := h
  refine go_iload_n 1 dX10_fault_0 rfl rfl ?_
  refine go_if_ne 11 dX10_fault_1 (by decide) s1 (fun c2 => ?_) (fun c2 => ?_)
  · have h := h.1 c2
    refine go_iload_n 1 dX10_fault_11 rfl rfl ?_
    refine go_iconst dX10_fault_12 ?_
    refine go_icmp_ne 23 dX10_fault_13 (by decide) s1 (by decide) (fun c4 => ?_) (fun c4 => ?_)
    · have h := h.1 c4
      refine go_iconst dX10_fault_23 ?_
      exact go_ireturn (Nat.le_refl _) (Nat.le_refl _) rfl dX10_fault_24 h
    · have h := h.2 c4
      refine go_aload_n 0 dX10_fault_16 rfl rfl ?_
      refine go_getI 16 (i := 16) f_X10_38 rfl (hL.1 107 _ rfl) dX10_fault_17 ?_
      refine go_goto 24 dX10_fault_20 (by decide) ?_
      exact go_ireturn (Nat.le_refl _) (Nat.le_refl _) rfl dX10_fault_24 h
  · have h := h.2 c2
    refine go_aload_n 0 dX10_fault_4 rfl rfl ?_
    refine go_getI 15 (i := 15) f_X10_34 rfl (hL.1 107 _ rfl) dX10_fault_5 ?_
    refine go_goto 24 dX10_fault_8 (by decide) ?_
    exact go_ireturn (Nat.le_refl _) (Nat.le_refl _) rfl dX10_fault_24 h
theorem s_X10_isStrip {l : Launch} {E : Ev} {Q : Int → Sh → Dm → Prop} {G : Sh} {D : Dm} (hL : Lay G) {v1 : Int}  (h : ((-2147483648 ≤ v1 ∧ v1 < 2147483648)) ∧ ((v1 < 0 → Q 0 G D) ∧ (0 ≤ v1 → (((D 108 0) ≤ v1 → Q 0 G D) ∧ (v1 < (D 108 0) → Q 1 G D))))) : Ct l E MX10_isStrip 0 0 0 [vR E 107, vI v1] G D Q := by
  refine Ct.of (by decide) (Nat.le_of_ble_eq_true rfl) ?_
  show KX10_isStrip l E Q 0 [(0, vR E 107), (1, vI v1)] G D
  obtain ⟨s1, h⟩ := h
  refine go_iload_n 1 dX10_isStrip_0 rfl rfl ?_
  refine go_if_lt 18 dX10_isStrip_1 (by decide) s1 (fun c2 => ?_) (fun c2 => ?_)
  · have h := h.1 c2
    refine go_iconst dX10_isStrip_18 ?_
    exact go_zreturn (Nat.le_refl _) (Nat.le_refl _) rfl (by decide) dX10_isStrip_19 h
  · have h := h.2 c2
    refine go_iload_n 1 dX10_isStrip_4 rfl rfl ?_
    refine go_aload_n 0 dX10_isStrip_5 rfl rfl ?_
    refine go_getR 0 f_X10_7 rfl (hL.1 107 _ rfl) (hL.2.1 107 0 _ rfl (by decide)) dX10_isStrip_6 ?_
    refine go_iconst dX10_isStrip_9 ?_
    refine go_iaload (hL.1 108 _ rfl) (b := 500) rfl (by decide) (by decide) dX10_isStrip_10 ?_
    refine go_rngI (c := 108) (i := 0) (hL.1 108 _ rfl) rfl (fun (q5 : -2147483648 ≤ (D 108 0) ∧ (D 108 0) < 2147483648) => ?_)
    refine go_icmp_ge 18 dX10_isStrip_11 (by decide) s1 q5 (fun c6 => ?_) (fun c6 => ?_)
    · have h := h.1 c6
      refine go_iconst dX10_isStrip_18 ?_
      exact go_zreturn (Nat.le_refl _) (Nat.le_refl _) rfl (by decide) dX10_isStrip_19 h
    · have h := h.2 c6
      refine go_iconst dX10_isStrip_14 ?_
      refine go_goto 19 dX10_isStrip_15 (by decide) ?_
      exact go_zreturn (Nat.le_refl _) (Nat.le_refl _) rfl (by decide) dX10_isStrip_19 h
theorem p_X10_isStrip {l : Launch} {E : Ev} {G : Sh} {D : Dm} (hL : Lay G) {v1 : Int}  (q0 : -2147483648 ≤ v1 ∧ v1 < 2147483648) : C0 l E MX10_isStrip 0 [vR E 107, vI v1] G D (fun r D' => r = (if ((0 ≤ v1) ∧ (v1 < (D 108 0))) then 1 else 0) ∧ D' = D) := by
  refine s_X10_isStrip hL ?_
  refine ⟨q0, ?_⟩
  refine ⟨fun hc => ?_, fun hc => ?_⟩
  · refine ⟨rfl, ?_, rfl⟩
    (split <;> first | rfl | (exfalso; simp_all; done) | omega | simp_all)
  · refine ⟨fun hc => ?_, fun hc => ?_⟩
    · refine ⟨rfl, ?_, rfl⟩
      (split <;> first | rfl | (exfalso; simp_all; done) | omega | simp_all)
    · refine ⟨rfl, ?_, rfl⟩
      (split <;> first | rfl | (exfalso; simp_all; done) | omega | simp_all)
theorem s_X10_isHarm {l : Launch} {E : Ev} {Q : Int → Sh → Dm → Prop} {G : Sh} {D : Dm} (hL : Lay G) {v1 : Int}  (h : ((-2147483648 ≤ v1 ∧ v1 < 2147483648)) ∧ ((v1 < 0 → Q 0 G D) ∧ (0 ≤ v1 → (((D 108 1) ≤ v1 → Q 0 G D) ∧ (v1 < (D 108 1) → Q 1 G D))))) : Ct l E MX10_isHarm 0 0 0 [vR E 107, vI v1] G D Q := by
  refine Ct.of (by decide) (Nat.le_of_ble_eq_true rfl) ?_
  show KX10_isHarm l E Q 0 [(0, vR E 107), (1, vI v1)] G D
  obtain ⟨s1, h⟩ := h
  refine go_iload_n 1 dX10_isHarm_0 rfl rfl ?_
  refine go_if_lt 18 dX10_isHarm_1 (by decide) s1 (fun c2 => ?_) (fun c2 => ?_)
  · have h := h.1 c2
    refine go_iconst dX10_isHarm_18 ?_
    exact go_zreturn (Nat.le_refl _) (Nat.le_refl _) rfl (by decide) dX10_isHarm_19 h
  · have h := h.2 c2
    refine go_iload_n 1 dX10_isHarm_4 rfl rfl ?_
    refine go_aload_n 0 dX10_isHarm_5 rfl rfl ?_
    refine go_getR 0 f_X10_7 rfl (hL.1 107 _ rfl) (hL.2.1 107 0 _ rfl (by decide)) dX10_isHarm_6 ?_
    refine go_iconst dX10_isHarm_9 ?_
    refine go_iaload (hL.1 108 _ rfl) (b := 500) rfl (by decide) (by decide) dX10_isHarm_10 ?_
    refine go_rngI (c := 108) (i := 1) (hL.1 108 _ rfl) rfl (fun (q5 : -2147483648 ≤ (D 108 1) ∧ (D 108 1) < 2147483648) => ?_)
    refine go_icmp_ge 18 dX10_isHarm_11 (by decide) s1 q5 (fun c6 => ?_) (fun c6 => ?_)
    · have h := h.1 c6
      refine go_iconst dX10_isHarm_18 ?_
      exact go_zreturn (Nat.le_refl _) (Nat.le_refl _) rfl (by decide) dX10_isHarm_19 h
    · have h := h.2 c6
      refine go_iconst dX10_isHarm_14 ?_
      refine go_goto 19 dX10_isHarm_15 (by decide) ?_
      exact go_zreturn (Nat.le_refl _) (Nat.le_refl _) rfl (by decide) dX10_isHarm_19 h
theorem p_X10_isHarm {l : Launch} {E : Ev} {G : Sh} {D : Dm} (hL : Lay G) {v1 : Int}  (q0 : -2147483648 ≤ v1 ∧ v1 < 2147483648) : C0 l E MX10_isHarm 0 [vR E 107, vI v1] G D (fun r D' => r = (if ((0 ≤ v1) ∧ (v1 < (D 108 1))) then 1 else 0) ∧ D' = D) := by
  refine s_X10_isHarm hL ?_
  refine ⟨q0, ?_⟩
  refine ⟨fun hc => ?_, fun hc => ?_⟩
  · refine ⟨rfl, ?_, rfl⟩
    (split <;> first | rfl | (exfalso; simp_all; done) | omega | simp_all)
  · refine ⟨fun hc => ?_, fun hc => ?_⟩
    · refine ⟨rfl, ?_, rfl⟩
      (split <;> first | rfl | (exfalso; simp_all; done) | omega | simp_all)
    · refine ⟨rfl, ?_, rfl⟩
      (split <;> first | rfl | (exfalso; simp_all; done) | omega | simp_all)
theorem s_X10_isFamily {l : Launch} {E : Ev} {Q : Int → Sh → Dm → Prop} {G : Sh} {D : Dm} (hL : Lay G) {v1 : Int}  (h : ((-2147483648 ≤ v1 ∧ v1 < 2147483648)) ∧ ((v1 < 0 → Q 0 G D) ∧ (0 ≤ v1 → (((D 108 2) ≤ v1 → Q 0 G D) ∧ (v1 < (D 108 2) → Q 1 G D))))) : Ct l E MX10_isFamily 0 0 0 [vR E 107, vI v1] G D Q := by
  refine Ct.of (by decide) (Nat.le_of_ble_eq_true rfl) ?_
  show KX10_isFamily l E Q 0 [(0, vR E 107), (1, vI v1)] G D
  obtain ⟨s1, h⟩ := h
  refine go_iload_n 1 dX10_isFamily_0 rfl rfl ?_
  refine go_if_lt 18 dX10_isFamily_1 (by decide) s1 (fun c2 => ?_) (fun c2 => ?_)
  · have h := h.1 c2
    refine go_iconst dX10_isFamily_18 ?_
    exact go_zreturn (Nat.le_refl _) (Nat.le_refl _) rfl (by decide) dX10_isFamily_19 h
  · have h := h.2 c2
    refine go_iload_n 1 dX10_isFamily_4 rfl rfl ?_
    refine go_aload_n 0 dX10_isFamily_5 rfl rfl ?_
    refine go_getR 0 f_X10_7 rfl (hL.1 107 _ rfl) (hL.2.1 107 0 _ rfl (by decide)) dX10_isFamily_6 ?_
    refine go_iconst dX10_isFamily_9 ?_
    refine go_iaload (hL.1 108 _ rfl) (b := 500) rfl (by decide) (by decide) dX10_isFamily_10 ?_
    refine go_rngI (c := 108) (i := 2) (hL.1 108 _ rfl) rfl (fun (q5 : -2147483648 ≤ (D 108 2) ∧ (D 108 2) < 2147483648) => ?_)
    refine go_icmp_ge 18 dX10_isFamily_11 (by decide) s1 q5 (fun c6 => ?_) (fun c6 => ?_)
    · have h := h.1 c6
      refine go_iconst dX10_isFamily_18 ?_
      exact go_zreturn (Nat.le_refl _) (Nat.le_refl _) rfl (by decide) dX10_isFamily_19 h
    · have h := h.2 c6
      refine go_iconst dX10_isFamily_14 ?_
      refine go_goto 19 dX10_isFamily_15 (by decide) ?_
      exact go_zreturn (Nat.le_refl _) (Nat.le_refl _) rfl (by decide) dX10_isFamily_19 h
theorem p_X10_isFamily {l : Launch} {E : Ev} {G : Sh} {D : Dm} (hL : Lay G) {v1 : Int}  (q0 : -2147483648 ≤ v1 ∧ v1 < 2147483648) : C0 l E MX10_isFamily 0 [vR E 107, vI v1] G D (fun r D' => r = (if ((0 ≤ v1) ∧ (v1 < (D 108 2))) then 1 else 0) ∧ D' = D) := by
  refine s_X10_isFamily hL ?_
  refine ⟨q0, ?_⟩
  refine ⟨fun hc => ?_, fun hc => ?_⟩
  · refine ⟨rfl, ?_, rfl⟩
    (split <;> first | rfl | (exfalso; simp_all; done) | omega | simp_all)
  · refine ⟨fun hc => ?_, fun hc => ?_⟩
    · refine ⟨rfl, ?_, rfl⟩
      (split <;> first | rfl | (exfalso; simp_all; done) | omega | simp_all)
    · refine ⟨rfl, ?_, rfl⟩
      (split <;> first | rfl | (exfalso; simp_all; done) | omega | simp_all)
theorem s_X10_areStrips {l : Launch} {E : Ev} {Q : Int → Sh → Dm → Prop} {G : Sh} {D : Dm} (hL : Lay G) {v1 : Int}  (h : ((-2147483648 ≤ v1 ∧ v1 < 2147483648)) ∧ ((v1 < 0 → Q 0 G D) ∧ (0 ≤ v1 → (((iSl 1 (D 108 0)) ≤ v1 → Q 0 G D) ∧ (v1 < (iSl 1 (D 108 0)) → Q 1 G D))))) : Ct l E MX10_areStrips 0 0 0 [vR E 107, vI v1] G D Q := by
  refine Ct.of (by decide) (Nat.le_of_ble_eq_true rfl) ?_
  show KX10_areStrips l E Q 0 [(0, vR E 107), (1, vI v1)] G D
  obtain ⟨s1, h⟩ := h
  refine go_iload_n 1 dX10_areStrips_0 rfl rfl ?_
  refine go_if_lt 20 dX10_areStrips_1 (by decide) s1 (fun c2 => ?_) (fun c2 => ?_)
  · have h := h.1 c2
    refine go_iconst dX10_areStrips_20 ?_
    exact go_zreturn (Nat.le_refl _) (Nat.le_refl _) rfl (by decide) dX10_areStrips_21 h
  · have h := h.2 c2
    refine go_iload_n 1 dX10_areStrips_4 rfl rfl ?_
    refine go_iconst dX10_areStrips_5 ?_
    refine go_aload_n 0 dX10_areStrips_6 rfl rfl ?_
    refine go_getR 0 f_X10_7 rfl (hL.1 107 _ rfl) (hL.2.1 107 0 _ rfl (by decide)) dX10_areStrips_7 ?_
    refine go_iconst dX10_areStrips_10 ?_
    refine go_iaload (hL.1 108 _ rfl) (b := 500) rfl (by decide) (by decide) dX10_areStrips_11 ?_
    refine go_ishl dX10_areStrips_12 ?_
    refine go_icmp_ge 20 dX10_areStrips_13 (by decide) s1 (r32 _) (fun c5 => ?_) (fun c5 => ?_)
    · have h := h.1 c5
      refine go_iconst dX10_areStrips_20 ?_
      exact go_zreturn (Nat.le_refl _) (Nat.le_refl _) rfl (by decide) dX10_areStrips_21 h
    · have h := h.2 c5
      refine go_iconst dX10_areStrips_16 ?_
      refine go_goto 21 dX10_areStrips_17 (by decide) ?_
      exact go_zreturn (Nat.le_refl _) (Nat.le_refl _) rfl (by decide) dX10_areStrips_21 h
theorem p_X10_areStrips {l : Launch} {E : Ev} {G : Sh} {D : Dm} (hL : Lay G) {v1 : Int}  (q0 : -2147483648 ≤ v1 ∧ v1 < 2147483648) : C0 l E MX10_areStrips 0 [vR E 107, vI v1] G D (fun r D' => r = (if ((0 ≤ v1) ∧ (v1 < (iSl 1 (D 108 0)))) then 1 else 0) ∧ D' = D) := by
  refine s_X10_areStrips hL ?_
  refine ⟨q0, ?_⟩
  refine ⟨fun hc => ?_, fun hc => ?_⟩
  · refine ⟨rfl, ?_, rfl⟩
    (split <;> first | rfl | (exfalso; simp_all; done) | omega | simp_all)
  · refine ⟨fun hc => ?_, fun hc => ?_⟩
    · refine ⟨rfl, ?_, rfl⟩
      (split <;> first | rfl | (exfalso; simp_all; done) | omega | simp_all)
    · refine ⟨rfl, ?_, rfl⟩
      (split <;> first | rfl | (exfalso; simp_all; done) | omega | simp_all)
theorem s_X10_isLot {l : Launch} {E : Ev} {Q : Int → Sh → Dm → Prop} {G : Sh} {D : Dm} (hL : Lay G) {v1 : Int}  (h : ((-9223372036854775808 ≤ v1 ∧ v1 < 9223372036854775808)) ∧ ((v1 < 0 → Q 0 G D) ∧ (0 ≤ v1 → (((jSl 1 (D 108 1)) ≤ v1 → Q 0 G D) ∧ (v1 < (jSl 1 (D 108 1)) → Q 1 G D))))) : Ct l E MX10_isLot 0 0 0 [vR E 107, vJ v1] G D Q := by
  refine Ct.of (by decide) (Nat.le_of_ble_eq_true rfl) ?_
  show KX10_isLot l E Q 0 [(0, vR E 107), (1, vJ v1)] G D
  obtain ⟨s1, h⟩ := h
  refine go_lload_n 1 dX10_isLot_0 rfl rfl ?_
  refine go_lconst (x := 0) dX10_isLot_1 rfl ?_
  refine go_lcmp_lt 23 dX10_isLot_2 dX10_isLot_3 (by decide) s1 (by decide) (fun c2 => ?_) (fun c2 => ?_)
  · have h := h.1 c2
    refine go_iconst dX10_isLot_23 ?_
    exact go_zreturn (Nat.le_refl _) (Nat.le_refl _) rfl (by decide) dX10_isLot_24 h
  · have h := h.2 c2
    refine go_lload_n 1 dX10_isLot_6 rfl rfl ?_
    refine go_lconst (x := 1) dX10_isLot_7 rfl ?_
    refine go_aload_n 0 dX10_isLot_8 rfl rfl ?_
    refine go_getR 0 f_X10_7 rfl (hL.1 107 _ rfl) (hL.2.1 107 0 _ rfl (by decide)) dX10_isLot_9 ?_
    refine go_iconst dX10_isLot_12 ?_
    refine go_iaload (hL.1 108 _ rfl) (b := 500) rfl (by decide) (by decide) dX10_isLot_13 ?_
    refine go_lshl dX10_isLot_14 ?_
    refine go_lcmp_ge 23 dX10_isLot_15 dX10_isLot_16 (by decide) s1 (r64 _) (fun c5 => ?_) (fun c5 => ?_)
    · have h := h.1 c5
      refine go_iconst dX10_isLot_23 ?_
      exact go_zreturn (Nat.le_refl _) (Nat.le_refl _) rfl (by decide) dX10_isLot_24 h
    · have h := h.2 c5
      refine go_iconst dX10_isLot_19 ?_
      refine go_goto 24 dX10_isLot_20 (by decide) ?_
      exact go_zreturn (Nat.le_refl _) (Nat.le_refl _) rfl (by decide) dX10_isLot_24 h
theorem p_X10_isLot {l : Launch} {E : Ev} {G : Sh} {D : Dm} (hL : Lay G) {v1 : Int}  (q0 : -9223372036854775808 ≤ v1 ∧ v1 < 9223372036854775808) : C0 l E MX10_isLot 0 [vR E 107, vJ v1] G D (fun r D' => r = (if ((0 ≤ v1) ∧ (v1 < (jSl 1 (D 108 1)))) then 1 else 0) ∧ D' = D) := by
  refine s_X10_isLot hL ?_
  refine ⟨q0, ?_⟩
  refine ⟨fun hc => ?_, fun hc => ?_⟩
  · refine ⟨rfl, ?_, rfl⟩
    (split <;> first | rfl | (exfalso; simp_all; done) | omega | simp_all)
  · refine ⟨fun hc => ?_, fun hc => ?_⟩
    · refine ⟨rfl, ?_, rfl⟩
      (split <;> first | rfl | (exfalso; simp_all; done) | omega | simp_all)
    · refine ⟨rfl, ?_, rfl⟩
      (split <;> first | rfl | (exfalso; simp_all; done) | omega | simp_all)
theorem s_X10_lots {l : Launch} {E : Ev} {Q : Int → Sh → Dm → Prop} {G : Sh} {D : Dm} (hL : Lay G)  (h : Q (iSl 1 (D 108 1)) G D) : Ct l E MX10_lots 0 0 0 [vR E 107] G D Q := by
  refine Ct.of (by decide) (Nat.le_of_ble_eq_true rfl) ?_
  show KX10_lots l E Q 0 [(0, vR E 107)] G D
  refine go_iconst dX10_lots_0 ?_
  refine go_aload_n 0 dX10_lots_1 rfl rfl ?_
  refine go_getR 0 f_X10_7 rfl (hL.1 107 _ rfl) (hL.2.1 107 0 _ rfl (by decide)) dX10_lots_2 ?_
  refine go_iconst dX10_lots_5 ?_
  refine go_iaload (hL.1 108 _ rfl) (b := 500) rfl (by decide) (by decide) dX10_lots_6 ?_
  refine go_ishl dX10_lots_7 ?_
  exact go_ireturn (Nat.le_refl _) (Nat.le_refl _) rfl dX10_lots_8 h
theorem p_X10_lots {l : Launch} {E : Ev} {G : Sh} {D : Dm} (hL : Lay G)   : C0 l E MX10_lots 0 [vR E 107] G D (fun r D' => r = (iSl 1 (D 108 1)) ∧ D' = D) := s_X10_lots hL ⟨rfl, rfl, rfl⟩
theorem s_X10_ofStrip {l : Launch} {E : Ev} {Q : Int → Sh → Dm → Prop} {G : Sh} {D : Dm} (hL : Lay G) {v1 v2 : Int}  (h : ((0 ≤ ((8 + (5 * v1)) + v2) ∧ ((8 + (5 * v1)) + v2) < 500)) ∧ Q (D 108 ((8 + (5 * v1)) + v2)) G D) : Ct l E MX10_ofStrip 0 0 0 [vR E 107, vI v1, vI v2] G D Q := by
  refine Ct.of (by decide) (Nat.le_of_ble_eq_true rfl) ?_
  show KX10_ofStrip l E Q 0 [(0, vR E 107), (1, vI v1), (2, vI v2)] G D
  obtain ⟨s1, h⟩ := h
  refine go_aload_n 0 dX10_ofStrip_0 rfl rfl ?_
  refine go_getR 0 f_X10_7 rfl (hL.1 107 _ rfl) (hL.2.1 107 0 _ rfl (by decide)) dX10_ofStrip_1 ?_
  refine go_bipush dX10_ofStrip_4 (by decide) ?_
  refine go_iconst dX10_ofStrip_6 ?_
  refine go_iload_n 1 dX10_ofStrip_7 rfl rfl ?_
  refine go_imul dX10_ofStrip_8 ?_
  refine go_iadd dX10_ofStrip_9 ?_
  refine go_iload_n 2 dX10_ofStrip_10 rfl rfl ?_
  refine go_iadd dX10_ofStrip_11 ?_
  refine go_iaload (hL.1 108 _ rfl) (b := 500) rfl (by decide) s1 dX10_ofStrip_12 ?_
  exact go_ireturn (Nat.le_refl _) (Nat.le_refl _) rfl dX10_ofStrip_13 h
theorem p_X10_ofStrip {l : Launch} {E : Ev} {G : Sh} {D : Dm} (hL : Lay G) {v1 v2 : Int}  (q0 : 0 ≤ ((8 + (5 * v1)) + v2) ∧ ((8 + (5 * v1)) + v2) < 500) : C0 l E MX10_ofStrip 0 [vR E 107, vI v1, vI v2] G D (fun r D' => r = (D 108 ((8 + (5 * v1)) + v2)) ∧ D' = D) := s_X10_ofStrip hL ⟨q0, ⟨rfl, rfl, rfl⟩⟩
theorem s_X10_ofHarm {l : Launch} {E : Ev} {Q : Int → Sh → Dm → Prop} {G : Sh} {D : Dm} (hL : Lay G) {v1 v2 : Int}  (h : ((0 ≤ ((58 + (5 * v1)) + v2) ∧ ((58 + (5 * v1)) + v2) < 500)) ∧ Q (D 108 ((58 + (5 * v1)) + v2)) G D) : Ct l E MX10_ofHarm 0 0 0 [vR E 107, vI v1, vI v2] G D Q := by
  refine Ct.of (by decide) (Nat.le_of_ble_eq_true rfl) ?_
  show KX10_ofHarm l E Q 0 [(0, vR E 107), (1, vI v1), (2, vI v2)] G D
  obtain ⟨s1, h⟩ := h
  refine go_aload_n 0 dX10_ofHarm_0 rfl rfl ?_
  refine go_getR 0 f_X10_7 rfl (hL.1 107 _ rfl) (hL.2.1 107 0 _ rfl (by decide)) dX10_ofHarm_1 ?_
  refine go_bipush dX10_ofHarm_4 (by decide) ?_
  refine go_iconst dX10_ofHarm_6 ?_
  refine go_iload_n 1 dX10_ofHarm_7 rfl rfl ?_
  refine go_imul dX10_ofHarm_8 ?_
  refine go_iadd dX10_ofHarm_9 ?_
  refine go_iload_n 2 dX10_ofHarm_10 rfl rfl ?_
  refine go_iadd dX10_ofHarm_11 ?_
  refine go_iaload (hL.1 108 _ rfl) (b := 500) rfl (by decide) s1 dX10_ofHarm_12 ?_
  exact go_ireturn (Nat.le_refl _) (Nat.le_refl _) rfl dX10_ofHarm_13 h
theorem p_X10_ofHarm {l : Launch} {E : Ev} {G : Sh} {D : Dm} (hL : Lay G) {v1 v2 : Int}  (q0 : 0 ≤ ((58 + (5 * v1)) + v2) ∧ ((58 + (5 * v1)) + v2) < 500) : C0 l E MX10_ofHarm 0 [vR E 107, vI v1, vI v2] G D (fun r D' => r = (D 108 ((58 + (5 * v1)) + v2)) ∧ D' = D) := s_X10_ofHarm hL ⟨q0, ⟨rfl, rfl, rfl⟩⟩
theorem s_X10_ofFamily {l : Launch} {E : Ev} {Q : Int → Sh → Dm → Prop} {G : Sh} {D : Dm} (hL : Lay G) {v1 v2 : Int}  (h : ((0 ≤ ((88 + (3 * v1)) + v2) ∧ ((88 + (3 * v1)) + v2) < 500)) ∧ Q (D 108 ((88 + (3 * v1)) + v2)) G D) : Ct l E MX10_ofFamily 0 0 0 [vR E 107, vI v1, vI v2] G D Q := by
  refine Ct.of (by decide) (Nat.le_of_ble_eq_true rfl) ?_
  show KX10_ofFamily l E Q 0 [(0, vR E 107), (1, vI v1), (2, vI v2)] G D
  obtain ⟨s1, h⟩ := h
  refine go_aload_n 0 dX10_ofFamily_0 rfl rfl ?_
  refine go_getR 0 f_X10_7 rfl (hL.1 107 _ rfl) (hL.2.1 107 0 _ rfl (by decide)) dX10_ofFamily_1 ?_
  refine go_bipush dX10_ofFamily_4 (by decide) ?_
  refine go_iconst dX10_ofFamily_6 ?_
  refine go_iload_n 1 dX10_ofFamily_7 rfl rfl ?_
  refine go_imul dX10_ofFamily_8 ?_
  refine go_iadd dX10_ofFamily_9 ?_
  refine go_iload_n 2 dX10_ofFamily_10 rfl rfl ?_
  refine go_iadd dX10_ofFamily_11 ?_
  refine go_iaload (hL.1 108 _ rfl) (b := 500) rfl (by decide) s1 dX10_ofFamily_12 ?_
  exact go_ireturn (Nat.le_refl _) (Nat.le_refl _) rfl dX10_ofFamily_13 h
theorem p_X10_ofFamily {l : Launch} {E : Ev} {G : Sh} {D : Dm} (hL : Lay G) {v1 v2 : Int}  (q0 : 0 ≤ ((88 + (3 * v1)) + v2) ∧ ((88 + (3 * v1)) + v2) < 500) : C0 l E MX10_ofFamily 0 [vR E 107, vI v1, vI v2] G D (fun r D' => r = (D 108 ((88 + (3 * v1)) + v2)) ∧ D' = D) := s_X10_ofFamily hL ⟨q0, ⟨rfl, rfl, rfl⟩⟩
theorem s_X10_falls {l : Launch} {E : Ev} {Q : Int → Sh → Dm → Prop} {G : Sh} {D : Dm} (hL : Lay G) {v1 v2 : Int}  (h : ((0 ≤ ((58 + (5 * v1)) + 0) ∧ ((58 + (5 * v1)) + 0) < 500)) ∧ (((D 108 ((58 + (5 * v1)) + 0)) ≠ 0 → (((D 108 ((58 + (5 * v1)) + 0)) = 3 → Q 1 G D) ∧ ((D 108 ((58 + (5 * v1)) + 0)) ≠ 3 → (((D 108 ((58 + (5 * v1)) + 0)) ≠ 1 → ((0 ≤ ((8 + (5 * v2)) + 3) ∧ ((8 + (5 * v2)) + 3) < 500) ∧ (0 ≤ ((58 + (5 * v1)) + 1) ∧ ((58 + (5 * v1)) + 1) < 500)) ∧ (((D 108 ((8 + (5 * v2)) + 3)) ≠ (D 108 ((58 + (5 * v1)) + 1)) → Q 0 G D) ∧ ((D 108 ((8 + (5 * v2)) + 3)) = (D 108 ((58 + (5 * v1)) + 1)) → Q 1 G D))) ∧ ((D 108 ((58 + (5 * v1)) + 0)) = 1 → ((0 ≤ ((8 + (5 * v2)) + 1) ∧ ((8 + (5 * v2)) + 1) < 500) ∧ (0 ≤ ((58 + (5 * v1)) + 1) ∧ ((58 + (5 * v1)) + 1) < 500)) ∧ (((D 108 ((58 + (5 * v1)) + 1)) ≤ (D 108 ((8 + (5 * v2)) + 1)) → Q 0 G D) ∧ ((D 108 ((8 + (5 * v2)) + 1)) < (D 108 ((58 + (5 * v1)) + 1)) → Q 1 G D))))))) ∧ ((D 108 ((58 + (5 * v1)) + 0)) = 0 → ((0 ≤ ((8 + (5 * v2)) + 0) ∧ ((8 + (5 * v2)) + 0) < 500) ∧ (0 ≤ ((58 + (5 * v1)) + 1) ∧ ((58 + (5 * v1)) + 1) < 500)) ∧ (((D 108 ((8 + (5 * v2)) + 0)) < (D 108 ((58 + (5 * v1)) + 1)) → Q 0 G D) ∧ ((D 108 ((58 + (5 * v1)) + 1)) ≤ (D 108 ((8 + (5 * v2)) + 0)) → ((0 ≤ ((58 + (5 * v1)) + 2) ∧ ((58 + (5 * v1)) + 2) < 500)) ∧ (((D 108 ((58 + (5 * v1)) + 2)) < (D 108 ((8 + (5 * v2)) + 0)) → Q 0 G D) ∧ ((D 108 ((8 + (5 * v2)) + 0)) ≤ (D 108 ((58 + (5 * v1)) + 2)) → Q 1 G D))))))) : Ct l E MX10_falls 0 0 0 [vR E 107, vI v1, vI v2] G D Q := by
  refine Ct.of (by decide) (Nat.le_of_ble_eq_true rfl) ?_
  show KX10_falls l E Q 0 [(0, vR E 107), (1, vI v1), (2, vI v2)] G D
  obtain ⟨s1, h⟩ := h
  refine go_aload_n 0 dX10_falls_0 rfl rfl ?_
  refine go_iload_n 1 dX10_falls_1 rfl rfl ?_
  refine go_iconst dX10_falls_2 ?_
  refine go_vIp (M := MX10_ofHarm) [vI v1, vI 0] [] mv_X10_207 (hL.1 107 _ rfl) rfl (by decide) ⟨Nat.le_of_ble_eq_true rfl, Nat.le_of_ble_eq_true rfl⟩ ⟨Nat.le_refl _, Nat.le_refl _⟩ rfl rfl (Nat.le_of_ble_eq_true rfl) dX10_falls_3 (p_X10_ofHarm hL s1) ?_
  refine go_istore_n [1, 2, 3, 0] (L' := [(0, vR E 107), (1, vI v1), (2, vI v2), (3, vI (D 108 ((58 + (5 * v1)) + 0)))]) dX10_falls_6 rfl (by decide) rfl ?_
  refine go_iload_n 3 dX10_falls_7 rfl rfl ?_
  refine go_rngI (c := 108) (i := ((58 + (5 * v1)) + 0)) (hL.1 108 _ rfl) rfl (fun (q3 : -2147483648 ≤ (D 108 ((58 + (5 * v1)) + 0)) ∧ (D 108 ((58 + (5 * v1)) + 0)) < 2147483648) => ?_)
  refine go_if_ne 47 dX10_falls_8 (by decide) q3 (fun c4 => ?_) (fun c4 => ?_)
  · have h := h.1 c4
    refine go_iload_n 3 dX10_falls_47 rfl rfl ?_
    refine go_iconst dX10_falls_48 ?_
    refine go_icmp_eq 90 dX10_falls_49 (by decide) q3 (by decide) (fun c6 => ?_) (fun c6 => ?_)
    · have h := h.1 c6
      refine go_iconst dX10_falls_90 ?_
      refine go_goto 95 dX10_falls_91 (by decide) ?_
      exact go_zreturn (Nat.le_refl _) (Nat.le_refl _) rfl (by decide) dX10_falls_95 h
    · have h := h.2 c6
      refine go_iload_n 3 dX10_falls_52 rfl rfl ?_
      refine go_iconst dX10_falls_53 ?_
      refine go_icmp_ne 75 dX10_falls_54 (by decide) q3 (by decide) (fun c9 => ?_) (fun c9 => ?_)
      · have h := h.1 c9
        obtain ⟨s10, h⟩ := h
        refine go_aload_n 0 dX10_falls_75 rfl rfl ?_
        refine go_iload_n 2 dX10_falls_76 rfl rfl ?_
        refine go_iconst dX10_falls_77 ?_
        refine go_vIp (M := MX10_ofStrip) [vI v2, vI 3] [] mv_X10_210 (hL.1 107 _ rfl) rfl (by decide) ⟨Nat.le_of_ble_eq_true rfl, Nat.le_of_ble_eq_true rfl⟩ ⟨Nat.le_refl _, Nat.le_refl _⟩ rfl rfl (Nat.le_of_ble_eq_true rfl) dX10_falls_78 (p_X10_ofStrip hL s10.1) ?_
        refine go_aload_n 0 dX10_falls_81 rfl rfl ?_
        refine go_iload_n 1 dX10_falls_82 rfl rfl ?_
        refine go_iconst dX10_falls_83 ?_
        refine go_vIp (M := MX10_ofHarm) [vI v1, vI 1] [vI (D 108 ((8 + (5 * v2)) + 3))] mv_X10_207 (hL.1 107 _ rfl) rfl (by decide) ⟨Nat.le_of_ble_eq_true rfl, Nat.le_of_ble_eq_true rfl⟩ ⟨Nat.le_refl _, Nat.le_refl _⟩ rfl rfl (Nat.le_of_ble_eq_true rfl) dX10_falls_84 (p_X10_ofHarm hL s10.2) ?_
        refine go_rngI (c := 108) (i := ((8 + (5 * v2)) + 3)) (hL.1 108 _ rfl) rfl (fun (q13 : -2147483648 ≤ (D 108 ((8 + (5 * v2)) + 3)) ∧ (D 108 ((8 + (5 * v2)) + 3)) < 2147483648) => ?_)
        refine go_rngI (c := 108) (i := ((58 + (5 * v1)) + 1)) (hL.1 108 _ rfl) rfl (fun (q14 : -2147483648 ≤ (D 108 ((58 + (5 * v1)) + 1)) ∧ (D 108 ((58 + (5 * v1)) + 1)) < 2147483648) => ?_)
        refine go_icmp_ne 94 dX10_falls_87 (by decide) q13 q14 (fun c15 => ?_) (fun c15 => ?_)
        · have h := h.1 c15
          refine go_iconst dX10_falls_94 ?_
          exact go_zreturn (Nat.le_refl _) (Nat.le_refl _) rfl (by decide) dX10_falls_95 h
        · have h := h.2 c15
          refine go_iconst dX10_falls_90 ?_
          refine go_goto 95 dX10_falls_91 (by decide) ?_
          exact go_zreturn (Nat.le_refl _) (Nat.le_refl _) rfl (by decide) dX10_falls_95 h
      · have h := h.2 c9
        obtain ⟨s18, h⟩ := h
        refine go_aload_n 0 dX10_falls_57 rfl rfl ?_
        refine go_iload_n 2 dX10_falls_58 rfl rfl ?_
        refine go_iconst dX10_falls_59 ?_
        refine go_vIp (M := MX10_ofStrip) [vI v2, vI 1] [] mv_X10_210 (hL.1 107 _ rfl) rfl (by decide) ⟨Nat.le_of_ble_eq_true rfl, Nat.le_of_ble_eq_true rfl⟩ ⟨Nat.le_refl _, Nat.le_refl _⟩ rfl rfl (Nat.le_of_ble_eq_true rfl) dX10_falls_60 (p_X10_ofStrip hL s18.1) ?_
        refine go_aload_n 0 dX10_falls_63 rfl rfl ?_
        refine go_iload_n 1 dX10_falls_64 rfl rfl ?_
        refine go_iconst dX10_falls_65 ?_
        refine go_vIp (M := MX10_ofHarm) [vI v1, vI 1] [vI (D 108 ((8 + (5 * v2)) + 1))] mv_X10_207 (hL.1 107 _ rfl) rfl (by decide) ⟨Nat.le_of_ble_eq_true rfl, Nat.le_of_ble_eq_true rfl⟩ ⟨Nat.le_refl _, Nat.le_refl _⟩ rfl rfl (Nat.le_of_ble_eq_true rfl) dX10_falls_66 (p_X10_ofHarm hL s18.2) ?_
        refine go_rngI (c := 108) (i := ((8 + (5 * v2)) + 1)) (hL.1 108 _ rfl) rfl (fun (q21 : -2147483648 ≤ (D 108 ((8 + (5 * v2)) + 1)) ∧ (D 108 ((8 + (5 * v2)) + 1)) < 2147483648) => ?_)
        refine go_rngI (c := 108) (i := ((58 + (5 * v1)) + 1)) (hL.1 108 _ rfl) rfl (fun (q22 : -2147483648 ≤ (D 108 ((58 + (5 * v1)) + 1)) ∧ (D 108 ((58 + (5 * v1)) + 1)) < 2147483648) => ?_)
        refine go_icmp_ge 94 dX10_falls_69 (by decide) q21 q22 (fun c23 => ?_) (fun c23 => ?_)
        · have h := h.1 c23
          refine go_iconst dX10_falls_94 ?_
          exact go_zreturn (Nat.le_refl _) (Nat.le_refl _) rfl (by decide) dX10_falls_95 h
        · have h := h.2 c23
          refine go_goto 90 dX10_falls_72 (by decide) ?_
          refine go_iconst dX10_falls_90 ?_
          refine go_goto 95 dX10_falls_91 (by decide) ?_
          exact go_zreturn (Nat.le_refl _) (Nat.le_refl _) rfl (by decide) dX10_falls_95 h
  · have h := h.2 c4
    obtain ⟨s26, h⟩ := h
    refine go_aload_n 0 dX10_falls_11 rfl rfl ?_
    refine go_iload_n 2 dX10_falls_12 rfl rfl ?_
    refine go_iconst dX10_falls_13 ?_
    refine go_vIp (M := MX10_ofStrip) [vI v2, vI 0] [] mv_X10_210 (hL.1 107 _ rfl) rfl (by decide) ⟨Nat.le_of_ble_eq_true rfl, Nat.le_of_ble_eq_true rfl⟩ ⟨Nat.le_refl _, Nat.le_refl _⟩ rfl rfl (Nat.le_of_ble_eq_true rfl) dX10_falls_14 (p_X10_ofStrip hL s26.1) ?_
    refine go_aload_n 0 dX10_falls_17 rfl rfl ?_
    refine go_iload_n 1 dX10_falls_18 rfl rfl ?_
    refine go_iconst dX10_falls_19 ?_
    refine go_vIp (M := MX10_ofHarm) [vI v1, vI 1] [vI (D 108 ((8 + (5 * v2)) + 0))] mv_X10_207 (hL.1 107 _ rfl) rfl (by decide) ⟨Nat.le_of_ble_eq_true rfl, Nat.le_of_ble_eq_true rfl⟩ ⟨Nat.le_refl _, Nat.le_refl _⟩ rfl rfl (Nat.le_of_ble_eq_true rfl) dX10_falls_20 (p_X10_ofHarm hL s26.2) ?_
    refine go_rngI (c := 108) (i := ((8 + (5 * v2)) + 0)) (hL.1 108 _ rfl) rfl (fun (q29 : -2147483648 ≤ (D 108 ((8 + (5 * v2)) + 0)) ∧ (D 108 ((8 + (5 * v2)) + 0)) < 2147483648) => ?_)
    refine go_rngI (c := 108) (i := ((58 + (5 * v1)) + 1)) (hL.1 108 _ rfl) rfl (fun (q30 : -2147483648 ≤ (D 108 ((58 + (5 * v1)) + 1)) ∧ (D 108 ((58 + (5 * v1)) + 1)) < 2147483648) => ?_)
    refine go_icmp_lt 45 dX10_falls_23 (by decide) q29 q30 (fun c31 => ?_) (fun c31 => ?_)
    · have h := h.1 c31
      refine go_iconst dX10_falls_45 ?_
      exact go_zreturn (Nat.le_refl _) (Nat.le_refl _) rfl (by decide) dX10_falls_46 h
    · have h := h.2 c31
      obtain ⟨s33, h⟩ := h
      refine go_aload_n 0 dX10_falls_26 rfl rfl ?_
      refine go_iload_n 2 dX10_falls_27 rfl rfl ?_
      refine go_iconst dX10_falls_28 ?_
      refine go_vIp (M := MX10_ofStrip) [vI v2, vI 0] [] mv_X10_210 (hL.1 107 _ rfl) rfl (by decide) ⟨Nat.le_of_ble_eq_true rfl, Nat.le_of_ble_eq_true rfl⟩ ⟨Nat.le_refl _, Nat.le_refl _⟩ rfl rfl (Nat.le_of_ble_eq_true rfl) dX10_falls_29 (p_X10_ofStrip hL s26.1) ?_
      refine go_aload_n 0 dX10_falls_32 rfl rfl ?_
      refine go_iload_n 1 dX10_falls_33 rfl rfl ?_
      refine go_iconst dX10_falls_34 ?_
      refine go_vIp (M := MX10_ofHarm) [vI v1, vI 2] [vI (D 108 ((8 + (5 * v2)) + 0))] mv_X10_207 (hL.1 107 _ rfl) rfl (by decide) ⟨Nat.le_of_ble_eq_true rfl, Nat.le_of_ble_eq_true rfl⟩ ⟨Nat.le_refl _, Nat.le_refl _⟩ rfl rfl (Nat.le_of_ble_eq_true rfl) dX10_falls_35 (p_X10_ofHarm hL s33) ?_
      refine go_rngI (c := 108) (i := ((58 + (5 * v1)) + 2)) (hL.1 108 _ rfl) rfl (fun (q36 : -2147483648 ≤ (D 108 ((58 + (5 * v1)) + 2)) ∧ (D 108 ((58 + (5 * v1)) + 2)) < 2147483648) => ?_)
      refine go_icmp_gt 45 dX10_falls_38 (by decide) q29 q36 (fun c37 => ?_) (fun c37 => ?_)
      · have h := h.1 c37
        refine go_iconst dX10_falls_45 ?_
        exact go_zreturn (Nat.le_refl _) (Nat.le_refl _) rfl (by decide) dX10_falls_46 h
      · have h := h.2 c37
        refine go_iconst dX10_falls_41 ?_
        refine go_goto 46 dX10_falls_42 (by decide) ?_
        exact go_zreturn (Nat.le_refl _) (Nat.le_refl _) rfl (by decide) dX10_falls_46 h
theorem p_X10_falls {l : Launch} {E : Ev} {G : Sh} {D : Dm} (hL : Lay G) {v1 v2 : Int}  (q0 : 0 ≤ ((58 + (5 * v1)) + 0) ∧ ((58 + (5 * v1)) + 0) < 500) (q1 : 0 ≤ ((8 + (5 * v2)) + 3) ∧ ((8 + (5 * v2)) + 3) < 500) (q2 : 0 ≤ ((58 + (5 * v1)) + 1) ∧ ((58 + (5 * v1)) + 1) < 500) (q3 : 0 ≤ ((8 + (5 * v2)) + 1) ∧ ((8 + (5 * v2)) + 1) < 500) (q4 : 0 ≤ ((8 + (5 * v2)) + 0) ∧ ((8 + (5 * v2)) + 0) < 500) (q5 : 0 ≤ ((58 + (5 * v1)) + 2) ∧ ((58 + (5 * v1)) + 2) < 500) : C0 l E MX10_falls 0 [vR E 107, vI v1, vI v2] G D (fun r D' => r = (if (((D 108 ((58 + (5 * v1)) + 0)) ≠ 0) ∧ (((D 108 ((58 + (5 * v1)) + 0)) = 3) ∨ (((D 108 ((58 + (5 * v1)) + 0)) ≠ 1) ∧ ((D 108 ((8 + (5 * v2)) + 3)) = (D 108 ((58 + (5 * v1)) + 1))) ∨ ((D 108 ((58 + (5 * v1)) + 0)) = 1) ∧ ((D 108 ((8 + (5 * v2)) + 1)) < (D 108 ((58 + (5 * v1)) + 1))))) ∨ ((D 108 ((58 + (5 * v1)) + 0)) = 0) ∧ (((D 108 ((58 + (5 * v1)) + 1)) ≤ (D 108 ((8 + (5 * v2)) + 0))) ∧ ((D 108 ((8 + (5 * v2)) + 0)) ≤ (D 108 ((58 + (5 * v1)) + 2))))) then 1 else 0) ∧ D' = D) := by
  refine s_X10_falls hL ?_
  refine ⟨q0, ?_⟩
  refine ⟨fun hc => ?_, fun hc => ?_⟩
  · refine ⟨fun hc => ?_, fun hc => ?_⟩
    · refine ⟨rfl, ?_, rfl⟩
      (split <;> first | rfl | (exfalso; simp_all; done) | omega | simp_all)
    · refine ⟨fun hc => ?_, fun hc => ?_⟩
      · refine ⟨⟨q1, q2⟩, ?_⟩
        refine ⟨fun hc => ?_, fun hc => ?_⟩
        · refine ⟨rfl, ?_, rfl⟩
          (split <;> first | rfl | (exfalso; simp_all; done) | omega | simp_all)
        · refine ⟨rfl, ?_, rfl⟩
          (split <;> first | rfl | (exfalso; simp_all; done) | omega | simp_all)
      · refine ⟨⟨q3, q2⟩, ?_⟩
        refine ⟨fun hc => ?_, fun hc => ?_⟩
        · refine ⟨rfl, ?_, rfl⟩
          (split <;> first | rfl | (exfalso; simp_all; done) | omega | simp_all)
        · refine ⟨rfl, ?_, rfl⟩
          (split <;> first | rfl | (exfalso; simp_all; done) | omega | simp_all)
  · refine ⟨⟨q4, q2⟩, ?_⟩
    refine ⟨fun hc => ?_, fun hc => ?_⟩
    · refine ⟨rfl, ?_, rfl⟩
      (split <;> first | rfl | (exfalso; simp_all; done) | omega | simp_all)
    · refine ⟨q5, ?_⟩
      refine ⟨fun hc => ?_, fun hc => ?_⟩
      · refine ⟨rfl, ?_, rfl⟩
        (split <;> first | rfl | (exfalso; simp_all; done) | omega | simp_all)
      · refine ⟨rfl, ?_, rfl⟩
        (split <;> first | rfl | (exfalso; simp_all; done) | omega | simp_all)
theorem s_X10_held {l : Launch} {E : Ev} {Q : Int → Sh → Dm → Prop} {G : Sh} {D : Dm} (hL : Lay G) {v1 : Int}  (h : KX10_held l E Q 4 [(0, vR E 107), (1, vI v1), (2, vI 0), (3, vI 0)] G D) : Ct l E MX10_held 0 0 0 [vR E 107, vI v1] G D Q := by
  refine Ct.of (by decide) (Nat.le_of_ble_eq_true rfl) ?_
  show KX10_held l E Q 0 [(0, vR E 107), (1, vI v1)] G D
  refine go_iconst dX10_held_0 ?_
  refine go_istore_n [1, 2, 0] (L' := [(0, vR E 107), (1, vI v1), (2, vI 0)]) dX10_held_1 rfl (by decide) rfl ?_
  refine go_iconst dX10_held_2 ?_
  refine go_istore_n [1, 2, 3, 0] (L' := [(0, vR E 107), (1, vI v1), (2, vI 0), (3, vI 0)]) dX10_held_3 rfl (by decide) rfl ?_
  exact h
theorem s_X10_held_4 {l : Launch} {E : Ev} {Q : Int → Sh → Dm → Prop} {G : Sh} {D : Dm} (hL : Lay G) {v1 v2 v3 : Int}  (h : ((-2147483648 ≤ v3 ∧ v3 < 2147483648)) ∧ (((D 108 0) ≤ v3 → Q v2 G D) ∧ (v3 < (D 108 0) → ((0 ≤ ((8 + (5 * v3)) + 4) ∧ ((8 + (5 * v3)) + 4) < 500) ∧ (-2147483648 ≤ v1 ∧ v1 < 2147483648)) ∧ (((D 108 ((8 + (5 * v3)) + 4)) ≠ v1 → KX10_held l E Q 4 [(0, vR E 107), (1, vI v1), (2, vI (iO v2 0)), (3, vI (v3 + 1))] G D) ∧ ((D 108 ((8 + (5 * v3)) + 4)) = v1 → KX10_held l E Q 4 [(0, vR E 107), (1, vI v1), (2, vI (iO v2 (iSl 1 v3))), (3, vI (v3 + 1))] G D))))) : KX10_held l E Q 4 [(0, vR E 107), (1, vI v1), (2, vI v2), (3, vI v3)] G D := by
  obtain ⟨s1, h⟩ := h
  refine go_iload_n 3 dX10_held_4 rfl rfl ?_
  refine go_aload_n 0 dX10_held_5 rfl rfl ?_
  refine go_getR 0 f_X10_7 rfl (hL.1 107 _ rfl) (hL.2.1 107 0 _ rfl (by decide)) dX10_held_6 ?_
  refine go_iconst dX10_held_9 ?_
  refine go_iaload (hL.1 108 _ rfl) (b := 500) rfl (by decide) (by decide) dX10_held_10 ?_
  refine go_rngI (c := 108) (i := 0) (hL.1 108 _ rfl) rfl (fun (q2 : -2147483648 ≤ (D 108 0) ∧ (D 108 0) < 2147483648) => ?_)
  refine go_icmp_ge 40 dX10_held_11 (by decide) s1 q2 (fun c3 => ?_) (fun c3 => ?_)
  · have h := h.1 c3
    refine go_iload_n 2 dX10_held_40 rfl rfl ?_
    exact go_ireturn (Nat.le_refl _) (Nat.le_refl _) rfl dX10_held_41 h
  · have h := h.2 c3
    obtain ⟨s5, h⟩ := h
    refine go_iload_n 2 dX10_held_14 rfl rfl ?_
    refine go_aload_n 0 dX10_held_15 rfl rfl ?_
    refine go_iload_n 3 dX10_held_16 rfl rfl ?_
    refine go_iconst dX10_held_17 ?_
    refine go_vIp (M := MX10_ofStrip) [vI v3, vI 4] [vI v2] mv_X10_210 (hL.1 107 _ rfl) rfl (by decide) ⟨Nat.le_of_ble_eq_true rfl, Nat.le_of_ble_eq_true rfl⟩ ⟨Nat.le_refl _, Nat.le_refl _⟩ rfl rfl (Nat.le_of_ble_eq_true rfl) dX10_held_18 (p_X10_ofStrip hL s5.1) ?_
    refine go_iload_n 1 dX10_held_21 rfl rfl ?_
    refine go_rngI (c := 108) (i := ((8 + (5 * v3)) + 4)) (hL.1 108 _ rfl) rfl (fun (q7 : -2147483648 ≤ (D 108 ((8 + (5 * v3)) + 4)) ∧ (D 108 ((8 + (5 * v3)) + 4)) < 2147483648) => ?_)
    refine go_icmp_ne 31 dX10_held_22 (by decide) q7 s5.2 (fun c8 => ?_) (fun c8 => ?_)
    · have h := h.1 c8
      refine go_iconst dX10_held_31 ?_
      refine go_ior dX10_held_32 ?_
      refine go_istore_n [1, 2, 0, 3] (L' := [(0, vR E 107), (1, vI v1), (2, vI (iO v2 0)), (3, vI v3)]) dX10_held_33 rfl (by decide) rfl ?_
      refine go_iinc 3 [1, 2, 3, 0] (L' := [(0, vR E 107), (1, vI v1), (2, vI (iO v2 0)), (3, vI (v3 + 1))]) dX10_held_34 (by decide) rfl rfl ?_
      refine go_goto 4 dX10_held_37 (by decide) ?_
      exact h
    · have h := h.2 c8
      refine go_iconst dX10_held_25 ?_
      refine go_iload_n 3 dX10_held_26 rfl rfl ?_
      refine go_ishl dX10_held_27 ?_
      refine go_goto 32 dX10_held_28 (by decide) ?_
      refine go_ior dX10_held_32 ?_
      refine go_istore_n [1, 2, 0, 3] (L' := [(0, vR E 107), (1, vI v1), (2, vI (iO v2 (iSl 1 v3))), (3, vI v3)]) dX10_held_33 rfl (by decide) rfl ?_
      refine go_iinc 3 [1, 2, 3, 0] (L' := [(0, vR E 107), (1, vI v1), (2, vI (iO v2 (iSl 1 v3))), (3, vI (v3 + 1))]) dX10_held_34 (by decide) rfl rfl ?_
      refine go_goto 4 dX10_held_37 (by decide) ?_
      exact h
theorem s_X10_bits {l : Launch} {E : Ev} {Q : Int → Sh → Dm → Prop} {G : Sh} {D : Dm} (hL : Lay G) {v0 : Int}  (h : KX10_bits l E Q 4 [(0, vI v0), (1, vI 0), (2, vI v0)] G D) : Ct l E MX10_bits 0 0 0 [vI v0] G D Q := by
  refine Ct.of (by decide) (Nat.le_of_ble_eq_true rfl) ?_
  show KX10_bits l E Q 0 [(0, vI v0)] G D
  refine go_iconst dX10_bits_0 ?_
  refine go_istore_n [1, 0] (L' := [(0, vI v0), (1, vI 0)]) dX10_bits_1 rfl (by decide) rfl ?_
  refine go_iload_n 0 dX10_bits_2 rfl rfl ?_
  refine go_istore_n [1, 2, 0] (L' := [(0, vI v0), (1, vI 0), (2, vI v0)]) dX10_bits_3 rfl (by decide) rfl ?_
  exact h
theorem s_X10_bits_4 {l : Launch} {E : Ev} {Q : Int → Sh → Dm → Prop} {G : Sh} {D : Dm} (hL : Lay G) {v0 v1 v2 : Int}  (h : ((-2147483648 ≤ v2 ∧ v2 < 2147483648)) ∧ ((v2 = 0 → Q v1 G D) ∧ (v2 ≠ 0 → KX10_bits l E Q 4 [(0, vI v0), (1, vI (v1 + 1)), (2, vI (iA v2 (v2 - 1)))] G D))) : KX10_bits l E Q 4 [(0, vI v0), (1, vI v1), (2, vI v2)] G D := by
  obtain ⟨s1, h⟩ := h
  refine go_iload_n 2 dX10_bits_4 rfl rfl ?_
  refine go_if_eq 20 dX10_bits_5 (by decide) s1 (fun c2 => ?_) (fun c2 => ?_)
  · have h := h.1 c2
    refine go_iload_n 1 dX10_bits_20 rfl rfl ?_
    exact go_ireturn (Nat.le_refl _) (Nat.le_refl _) rfl dX10_bits_21 h
  · have h := h.2 c2
    refine go_iinc 1 [1, 0, 2] (L' := [(0, vI v0), (1, vI (v1 + 1)), (2, vI v2)]) dX10_bits_8 (by decide) rfl rfl ?_
    refine go_iload_n 2 dX10_bits_11 rfl rfl ?_
    refine go_iload_n 2 dX10_bits_12 rfl rfl ?_
    refine go_iconst dX10_bits_13 ?_
    refine go_isub dX10_bits_14 ?_
    refine go_iand dX10_bits_15 ?_
    refine go_istore_n [1, 2, 0] (L' := [(0, vI v0), (1, vI (v1 + 1)), (2, vI (iA v2 (v2 - 1)))]) dX10_bits_16 rfl (by decide) rfl ?_
    refine go_goto 4 dX10_bits_17 (by decide) ?_
    exact h
theorem s_X10_many {l : Launch} {E : Ev} {Q : Int → Sh → Dm → Prop} {G : Sh} {D : Dm} (hL : Lay G) {v1 : Int}  (h : ((-2147483648 ≤ v1 ∧ v1 < 2147483648)) ∧ ((v1 < 0 → Q (-1) G (upd2 D 107 1 1)) ∧ (0 ≤ v1 → ((v1 ≤ 2 → ((0 ≤ v1 ∧ v1 < 500)) ∧ Q (D 108 v1) G (upd2 D 107 1 0)) ∧ (2 < v1 → Q (-1) G (upd2 D 107 1 1)))))) : Ct l E MX10_many 0 0 0 [vR E 107, vI v1] G D Q := by
  refine Ct.of (by decide) (Nat.le_of_ble_eq_true rfl) ?_
  show KX10_many l E Q 0 [(0, vR E 107), (1, vI v1)] G D
  obtain ⟨s1, h⟩ := h
  refine go_iload_n 1 dX10_many_0 rfl rfl ?_
  refine go_if_lt 9 dX10_many_1 (by decide) s1 (fun c2 => ?_) (fun c2 => ?_)
  · have h := h.1 c2
    refine go_aload_n 0 dX10_many_9 rfl rfl ?_
    refine go_iconst dX10_many_10 ?_
    refine go_vIp (M := MX10_refuse) [vI 1] [] mv_X10_194 (hL.1 107 _ rfl) rfl (by decide) ⟨Nat.le_of_ble_eq_true rfl, Nat.le_of_ble_eq_true rfl⟩ ⟨Nat.le_refl _, Nat.le_refl _⟩ rfl rfl (Nat.le_of_ble_eq_true rfl) dX10_many_11 (p_X10_refuse hL (by decide)) ?_
    refine go_goto 27 dX10_many_14 (by decide) ?_
    exact go_ireturn (Nat.le_refl _) (Nat.le_refl _) rfl dX10_many_27 h
  · have h := h.2 c2
    refine go_iload_n 1 dX10_many_4 rfl rfl ?_
    refine go_iconst dX10_many_5 ?_
    refine go_icmp_le 17 dX10_many_6 (by decide) s1 (by decide) (fun c6 => ?_) (fun c6 => ?_)
    · have h := h.1 c6
      obtain ⟨s7, h⟩ := h
      refine go_aload_n 0 dX10_many_17 rfl rfl ?_
      refine go_aload_n 0 dX10_many_18 rfl rfl ?_
      refine go_getR 0 f_X10_7 rfl (hL.1 107 _ rfl) (hL.2.1 107 0 _ rfl (by decide)) dX10_many_19 ?_
      refine go_iload_n 1 dX10_many_22 rfl rfl ?_
      refine go_iaload (hL.1 108 _ rfl) (b := 500) rfl (by decide) s7 dX10_many_23 ?_
      refine go_vIp (M := MX10_gives) [vI (D 108 v1)] [] mv_X10_204 (hL.1 107 _ rfl) rfl (by decide) ⟨Nat.le_of_ble_eq_true rfl, Nat.le_of_ble_eq_true rfl⟩ ⟨Nat.le_refl _, Nat.le_refl _⟩ rfl rfl (Nat.le_of_ble_eq_true rfl) dX10_many_24 (p_X10_gives hL) ?_
      exact go_ireturn (Nat.le_refl _) (Nat.le_refl _) rfl dX10_many_27 h
    · have h := h.2 c6
      refine go_aload_n 0 dX10_many_9 rfl rfl ?_
      refine go_iconst dX10_many_10 ?_
      refine go_vIp (M := MX10_refuse) [vI 1] [] mv_X10_194 (hL.1 107 _ rfl) rfl (by decide) ⟨Nat.le_of_ble_eq_true rfl, Nat.le_of_ble_eq_true rfl⟩ ⟨Nat.le_refl _, Nat.le_refl _⟩ rfl rfl (Nat.le_of_ble_eq_true rfl) dX10_many_11 (p_X10_refuse hL (by decide)) ?_
      refine go_goto 27 dX10_many_14 (by decide) ?_
      exact go_ireturn (Nat.le_refl _) (Nat.le_refl _) rfl dX10_many_27 h
theorem s_X10_strip {l : Launch} {E : Ev} {Q : Int → Sh → Dm → Prop} {G : Sh} {D : Dm} (hL : Lay G) {v1 v2 : Int}  (h : ((-2147483648 ≤ v1 ∧ v1 < 2147483648)) ∧ ((¬ ((0 ≤ v1) ∧ (v1 < (D 108 0))) → Q (-1) G (upd2 D 107 1 1)) ∧ (((0 ≤ v1) ∧ (v1 < (D 108 0))) → ((-2147483648 ≤ v2 ∧ v2 < 2147483648)) ∧ ((v2 < 0 → Q (-1) G (upd2 D 107 1 1)) ∧ (0 ≤ v2 → ((v2 ≤ 4 → ((0 ≤ ((8 + (5 * v1)) + v2) ∧ ((8 + (5 * v1)) + v2) < 500)) ∧ ((v2 ≠ 4 → Q (D 108 ((8 + (5 * v1)) + v2)) G (upd2 D 107 1 0)) ∧ (v2 = 4 → (((D 108 ((8 + (5 * v1)) + v2)) ≠ (-1) → Q (D 108 ((8 + (5 * v1)) + v2)) G (upd2 D 107 1 0)) ∧ ((D 108 ((8 + (5 * v1)) + v2)) = (-1) → Q (-1) G (upd2 D 107 1 6)))))) ∧ (4 < v2 → Q (-1) G (upd2 D 107 1 1)))))))) : Ct l E MX10_strip 0 0 0 [vR E 107, vI v1, vI v2] G D Q := by
  refine Ct.of (by decide) (Nat.le_of_ble_eq_true rfl) ?_
  show KX10_strip l E Q 0 [(0, vR E 107), (1, vI v1), (2, vI v2)] G D
  obtain ⟨s1, h⟩ := h
  refine go_aload_n 0 dX10_strip_0 rfl rfl ?_
  refine go_iload_n 1 dX10_strip_1 rfl rfl ?_
  refine go_vIp (M := MX10_isStrip) [vI v1] [] mv_X10_213 (hL.1 107 _ rfl) rfl (by decide) ⟨Nat.le_of_ble_eq_true rfl, Nat.le_of_ble_eq_true rfl⟩ ⟨Nat.le_refl _, Nat.le_refl _⟩ rfl rfl (Nat.le_of_ble_eq_true rfl) dX10_strip_2 (p_X10_isStrip hL s1) ?_
  refine go_ifb_eq 17 dX10_strip_5 (by decide) (fun c3 => ?_) (fun c3 => ?_)
  · have h := h.1 c3
    refine go_aload_n 0 dX10_strip_17 rfl rfl ?_
    refine go_iconst dX10_strip_18 ?_
    refine go_vIp (M := MX10_refuse) [vI 1] [] mv_X10_194 (hL.1 107 _ rfl) rfl (by decide) ⟨Nat.le_of_ble_eq_true rfl, Nat.le_of_ble_eq_true rfl⟩ ⟨Nat.le_refl _, Nat.le_refl _⟩ rfl rfl (Nat.le_of_ble_eq_true rfl) dX10_strip_19 (p_X10_refuse hL (by decide)) ?_
    exact go_ireturn (Nat.le_refl _) (Nat.le_refl _) rfl dX10_strip_22 h
  · have h := h.2 c3
    obtain ⟨s6, h⟩ := h
    refine go_iload_n 2 dX10_strip_8 rfl rfl ?_
    refine go_if_lt 17 dX10_strip_9 (by decide) s6 (fun c7 => ?_) (fun c7 => ?_)
    · have h := h.1 c7
      refine go_aload_n 0 dX10_strip_17 rfl rfl ?_
      refine go_iconst dX10_strip_18 ?_
      refine go_vIp (M := MX10_refuse) [vI 1] [] mv_X10_194 (hL.1 107 _ rfl) rfl (by decide) ⟨Nat.le_of_ble_eq_true rfl, Nat.le_of_ble_eq_true rfl⟩ ⟨Nat.le_refl _, Nat.le_refl _⟩ rfl rfl (Nat.le_of_ble_eq_true rfl) dX10_strip_19 (p_X10_refuse hL (by decide)) ?_
      exact go_ireturn (Nat.le_refl _) (Nat.le_refl _) rfl dX10_strip_22 h
    · have h := h.2 c7
      refine go_iload_n 2 dX10_strip_12 rfl rfl ?_
      refine go_iconst dX10_strip_13 ?_
      refine go_icmp_le 23 dX10_strip_14 (by decide) s6 (by decide) (fun c11 => ?_) (fun c11 => ?_)
      · have h := h.1 c11
        obtain ⟨s12, h⟩ := h
        refine go_aload_n 0 dX10_strip_23 rfl rfl ?_
        refine go_iload_n 1 dX10_strip_24 rfl rfl ?_
        refine go_iload_n 2 dX10_strip_25 rfl rfl ?_
        refine go_vIp (M := MX10_ofStrip) [vI v1, vI v2] [] mv_X10_210 (hL.1 107 _ rfl) rfl (by decide) ⟨Nat.le_of_ble_eq_true rfl, Nat.le_of_ble_eq_true rfl⟩ ⟨Nat.le_refl _, Nat.le_refl _⟩ rfl rfl (Nat.le_of_ble_eq_true rfl) dX10_strip_26 (p_X10_ofStrip hL s12) ?_
        refine go_istore_n [1, 2, 3, 0] (L' := [(0, vR E 107), (1, vI v1), (2, vI v2), (3, vI (D 108 ((8 + (5 * v1)) + v2)))]) dX10_strip_29 rfl (by decide) rfl ?_
        refine go_iload_n 2 dX10_strip_30 rfl rfl ?_
        refine go_iconst dX10_strip_31 ?_
        refine go_icmp_ne 49 dX10_strip_32 (by decide) s6 (by decide) (fun c14 => ?_) (fun c14 => ?_)
        · have h := h.1 c14
          refine go_aload_n 0 dX10_strip_49 rfl rfl ?_
          refine go_iload_n 3 dX10_strip_50 rfl rfl ?_
          refine go_vIp (M := MX10_gives) [vI (D 108 ((8 + (5 * v1)) + v2))] [] mv_X10_204 (hL.1 107 _ rfl) rfl (by decide) ⟨Nat.le_of_ble_eq_true rfl, Nat.le_of_ble_eq_true rfl⟩ ⟨Nat.le_refl _, Nat.le_refl _⟩ rfl rfl (Nat.le_of_ble_eq_true rfl) dX10_strip_51 (p_X10_gives hL) ?_
          exact go_ireturn (Nat.le_refl _) (Nat.le_refl _) rfl dX10_strip_54 h
        · have h := h.2 c14
          refine go_iload_n 3 dX10_strip_35 rfl rfl ?_
          refine go_iconst dX10_strip_36 ?_
          refine go_rngI (c := 108) (i := ((8 + (5 * v1)) + v2)) (hL.1 108 _ rfl) rfl (fun (q18 : -2147483648 ≤ (D 108 ((8 + (5 * v1)) + v2)) ∧ (D 108 ((8 + (5 * v1)) + v2)) < 2147483648) => ?_)
          refine go_icmp_ne 49 dX10_strip_37 (by decide) q18 (by decide) (fun c19 => ?_) (fun c19 => ?_)
          · have h := h.1 c19
            refine go_aload_n 0 dX10_strip_49 rfl rfl ?_
            refine go_iload_n 3 dX10_strip_50 rfl rfl ?_
            refine go_vIp (M := MX10_gives) [vI (D 108 ((8 + (5 * v1)) + v2))] [] mv_X10_204 (hL.1 107 _ rfl) rfl (by decide) ⟨Nat.le_of_ble_eq_true rfl, Nat.le_of_ble_eq_true rfl⟩ ⟨Nat.le_refl _, Nat.le_refl _⟩ rfl rfl (Nat.le_of_ble_eq_true rfl) dX10_strip_51 (p_X10_gives hL) ?_
            exact go_ireturn (Nat.le_refl _) (Nat.le_refl _) rfl dX10_strip_54 h
          · have h := h.2 c19
            refine go_aload_n 0 dX10_strip_40 rfl rfl ?_
            refine go_bipush dX10_strip_41 (by decide) ?_
            refine go_vIp (M := MX10_refuse) [vI 6] [] mv_X10_194 (hL.1 107 _ rfl) rfl (by decide) ⟨Nat.le_of_ble_eq_true rfl, Nat.le_of_ble_eq_true rfl⟩ ⟨Nat.le_refl _, Nat.le_refl _⟩ rfl rfl (Nat.le_of_ble_eq_true rfl) dX10_strip_43 (p_X10_refuse hL (by decide)) ?_
            refine go_goto 54 dX10_strip_46 (by decide) ?_
            exact go_ireturn (Nat.le_refl _) (Nat.le_refl _) rfl dX10_strip_54 h
      · have h := h.2 c11
        refine go_aload_n 0 dX10_strip_17 rfl rfl ?_
        refine go_iconst dX10_strip_18 ?_
        refine go_vIp (M := MX10_refuse) [vI 1] [] mv_X10_194 (hL.1 107 _ rfl) rfl (by decide) ⟨Nat.le_of_ble_eq_true rfl, Nat.le_of_ble_eq_true rfl⟩ ⟨Nat.le_refl _, Nat.le_refl _⟩ rfl rfl (Nat.le_of_ble_eq_true rfl) dX10_strip_19 (p_X10_refuse hL (by decide)) ?_
        exact go_ireturn (Nat.le_refl _) (Nat.le_refl _) rfl dX10_strip_22 h
theorem s_X10_harm {l : Launch} {E : Ev} {Q : Int → Sh → Dm → Prop} {G : Sh} {D : Dm} (hL : Lay G) {v1 v2 : Int}  (h : ((-2147483648 ≤ v1 ∧ v1 < 2147483648)) ∧ ((¬ ((0 ≤ v1) ∧ (v1 < (D 108 1))) → Q (-1) G (upd2 D 107 1 1)) ∧ (((0 ≤ v1) ∧ (v1 < (D 108 1))) → ((-2147483648 ≤ v2 ∧ v2 < 2147483648)) ∧ ((v2 < 0 → Q (-1) G (upd2 D 107 1 1)) ∧ (0 ≤ v2 → ((v2 ≤ 3 → ((3 ≤ v2 → KX10_harm l E Q 54 [(0, vR E 107), (1, vI v1), (2, vI v2), (3, vI 0), (4, vI 0)] G D) ∧ (v2 < 3 → ((v2 ≠ 0 → ((0 ≤ ((58 + (5 * v1)) + (v2 + 2)) ∧ ((58 + (5 * v1)) + (v2 + 2)) < 500)) ∧ Q (D 108 ((58 + (5 * v1)) + (v2 + 2))) G (upd2 D 107 1 0)) ∧ (v2 = 0 → ((0 ≤ ((58 + (5 * v1)) + 0) ∧ ((58 + (5 * v1)) + 0) < 500)) ∧ Q (D 108 ((58 + (5 * v1)) + 0)) G (upd2 D 107 1 0)))))) ∧ (3 < v2 → Q (-1) G (upd2 D 107 1 1)))))))) : Ct l E MX10_harm 0 0 0 [vR E 107, vI v1, vI v2] G D Q := by
  refine Ct.of (by decide) (Nat.le_of_ble_eq_true rfl) ?_
  show KX10_harm l E Q 0 [(0, vR E 107), (1, vI v1), (2, vI v2)] G D
  obtain ⟨s1, h⟩ := h
  refine go_aload_n 0 dX10_harm_0 rfl rfl ?_
  refine go_iload_n 1 dX10_harm_1 rfl rfl ?_
  refine go_vIp (M := MX10_isHarm) [vI v1] [] mv_X10_216 (hL.1 107 _ rfl) rfl (by decide) ⟨Nat.le_of_ble_eq_true rfl, Nat.le_of_ble_eq_true rfl⟩ ⟨Nat.le_refl _, Nat.le_refl _⟩ rfl rfl (Nat.le_of_ble_eq_true rfl) dX10_harm_2 (p_X10_isHarm hL s1) ?_
  refine go_ifb_eq 17 dX10_harm_5 (by decide) (fun c3 => ?_) (fun c3 => ?_)
  · have h := h.1 c3
    refine go_aload_n 0 dX10_harm_17 rfl rfl ?_
    refine go_iconst dX10_harm_18 ?_
    refine go_vIp (M := MX10_refuse) [vI 1] [] mv_X10_194 (hL.1 107 _ rfl) rfl (by decide) ⟨Nat.le_of_ble_eq_true rfl, Nat.le_of_ble_eq_true rfl⟩ ⟨Nat.le_refl _, Nat.le_refl _⟩ rfl rfl (Nat.le_of_ble_eq_true rfl) dX10_harm_19 (p_X10_refuse hL (by decide)) ?_
    exact go_ireturn (Nat.le_refl _) (Nat.le_refl _) rfl dX10_harm_22 h
  · have h := h.2 c3
    obtain ⟨s6, h⟩ := h
    refine go_iload_n 2 dX10_harm_8 rfl rfl ?_
    refine go_if_lt 17 dX10_harm_9 (by decide) s6 (fun c7 => ?_) (fun c7 => ?_)
    · have h := h.1 c7
      refine go_aload_n 0 dX10_harm_17 rfl rfl ?_
      refine go_iconst dX10_harm_18 ?_
      refine go_vIp (M := MX10_refuse) [vI 1] [] mv_X10_194 (hL.1 107 _ rfl) rfl (by decide) ⟨Nat.le_of_ble_eq_true rfl, Nat.le_of_ble_eq_true rfl⟩ ⟨Nat.le_refl _, Nat.le_refl _⟩ rfl rfl (Nat.le_of_ble_eq_true rfl) dX10_harm_19 (p_X10_refuse hL (by decide)) ?_
      exact go_ireturn (Nat.le_refl _) (Nat.le_refl _) rfl dX10_harm_22 h
    · have h := h.2 c7
      refine go_iload_n 2 dX10_harm_12 rfl rfl ?_
      refine go_iconst dX10_harm_13 ?_
      refine go_icmp_le 23 dX10_harm_14 (by decide) s6 (by decide) (fun c11 => ?_) (fun c11 => ?_)
      · have h := h.1 c11
        refine go_iload_n 2 dX10_harm_23 rfl rfl ?_
        refine go_iconst dX10_harm_24 ?_
        refine go_icmp_ge 49 dX10_harm_25 (by decide) s6 (by decide) (fun c13 => ?_) (fun c13 => ?_)
        · have h := h.1 c13
          refine go_iconst dX10_harm_49 ?_
          refine go_istore_n [1, 2, 3, 0] (L' := [(0, vR E 107), (1, vI v1), (2, vI v2), (3, vI 0)]) dX10_harm_50 rfl (by decide) rfl ?_
          refine go_iconst dX10_harm_51 ?_
          refine go_istore [1, 2, 3, 4, 0] (L' := [(0, vR E 107), (1, vI v1), (2, vI v2), (3, vI 0), (4, vI 0)]) dX10_harm_52 (by decide) rfl ?_
          exact h
        · have h := h.2 c13
          refine go_aload_n 0 dX10_harm_28 rfl rfl ?_
          refine go_aload_n 0 dX10_harm_29 rfl rfl ?_
          refine go_iload_n 1 dX10_harm_30 rfl rfl ?_
          refine go_iload_n 2 dX10_harm_31 rfl rfl ?_
          refine go_if_ne 39 dX10_harm_32 (by decide) s6 (fun c16 => ?_) (fun c16 => ?_)
          · have h := h.1 c16
            obtain ⟨s17, h⟩ := h
            refine go_iload_n 2 dX10_harm_39 rfl rfl ?_
            refine go_iconst dX10_harm_40 ?_
            refine go_iadd dX10_harm_41 ?_
            refine go_vIp (M := MX10_ofHarm) [vI v1, vI (v2 + 2)] [vR E 107] mv_X10_207 (hL.1 107 _ rfl) rfl (by decide) ⟨Nat.le_of_ble_eq_true rfl, Nat.le_of_ble_eq_true rfl⟩ ⟨Nat.le_refl _, Nat.le_refl _⟩ rfl rfl (Nat.le_of_ble_eq_true rfl) dX10_harm_42 (p_X10_ofHarm hL s17) ?_
            refine go_vIp (M := MX10_gives) [vI (D 108 ((58 + (5 * v1)) + (v2 + 2)))] [] mv_X10_204 (hL.1 107 _ rfl) rfl (by decide) ⟨Nat.le_of_ble_eq_true rfl, Nat.le_of_ble_eq_true rfl⟩ ⟨Nat.le_refl _, Nat.le_refl _⟩ rfl rfl (Nat.le_of_ble_eq_true rfl) dX10_harm_45 (p_X10_gives hL) ?_
            exact go_ireturn (Nat.le_refl _) (Nat.le_refl _) rfl dX10_harm_48 h
          · have h := h.2 c16
            obtain ⟨s20, h⟩ := h
            refine go_iconst dX10_harm_35 ?_
            refine go_goto 42 dX10_harm_36 (by decide) ?_
            refine go_vIp (M := MX10_ofHarm) [vI v1, vI 0] [vR E 107] mv_X10_207 (hL.1 107 _ rfl) rfl (by decide) ⟨Nat.le_of_ble_eq_true rfl, Nat.le_of_ble_eq_true rfl⟩ ⟨Nat.le_refl _, Nat.le_refl _⟩ rfl rfl (Nat.le_of_ble_eq_true rfl) dX10_harm_42 (p_X10_ofHarm hL s20) ?_
            refine go_vIp (M := MX10_gives) [vI (D 108 ((58 + (5 * v1)) + 0))] [] mv_X10_204 (hL.1 107 _ rfl) rfl (by decide) ⟨Nat.le_of_ble_eq_true rfl, Nat.le_of_ble_eq_true rfl⟩ ⟨Nat.le_refl _, Nat.le_refl _⟩ rfl rfl (Nat.le_of_ble_eq_true rfl) dX10_harm_45 (p_X10_gives hL) ?_
            exact go_ireturn (Nat.le_refl _) (Nat.le_refl _) rfl dX10_harm_48 h
      · have h := h.2 c11
        refine go_aload_n 0 dX10_harm_17 rfl rfl ?_
        refine go_iconst dX10_harm_18 ?_
        refine go_vIp (M := MX10_refuse) [vI 1] [] mv_X10_194 (hL.1 107 _ rfl) rfl (by decide) ⟨Nat.le_of_ble_eq_true rfl, Nat.le_of_ble_eq_true rfl⟩ ⟨Nat.le_refl _, Nat.le_refl _⟩ rfl rfl (Nat.le_of_ble_eq_true rfl) dX10_harm_19 (p_X10_refuse hL (by decide)) ?_
        exact go_ireturn (Nat.le_refl _) (Nat.le_refl _) rfl dX10_harm_22 h
theorem s_X10_harm_54 {l : Launch} {E : Ev} {Q : Int → Sh → Dm → Prop} {G : Sh} {D : Dm} (hL : Lay G) {v1 v2 v3 v4 : Int}  (h : ((-2147483648 ≤ v4 ∧ v4 < 2147483648)) ∧ (((D 108 0) ≤ v4 → Q v3 G (upd2 D 107 1 0)) ∧ (v4 < (D 108 0) → ((0 ≤ ((58 + (5 * v1)) + 0) ∧ ((58 + (5 * v1)) + 0) < 500) ∧ (0 ≤ ((8 + (5 * v4)) + 3) ∧ ((8 + (5 * v4)) + 3) < 500) ∧ (0 ≤ ((58 + (5 * v1)) + 1) ∧ ((58 + (5 * v1)) + 1) < 500) ∧ (0 ≤ ((8 + (5 * v4)) + 1) ∧ ((8 + (5 * v4)) + 1) < 500) ∧ (0 ≤ ((8 + (5 * v4)) + 0) ∧ ((8 + (5 * v4)) + 0) < 500) ∧ (0 ≤ ((58 + (5 * v1)) + 2) ∧ ((58 + (5 * v1)) + 2) < 500)) ∧ ((¬ (((D 108 ((58 + (5 * v1)) + 0)) ≠ 0) ∧ (((D 108 ((58 + (5 * v1)) + 0)) = 3) ∨ (((D 108 ((58 + (5 * v1)) + 0)) ≠ 1) ∧ ((D 108 ((8 + (5 * v4)) + 3)) = (D 108 ((58 + (5 * v1)) + 1))) ∨ ((D 108 ((58 + (5 * v1)) + 0)) = 1) ∧ ((D 108 ((8 + (5 * v4)) + 1)) < (D 108 ((58 + (5 * v1)) + 1))))) ∨ ((D 108 ((58 + (5 * v1)) + 0)) = 0) ∧ (((D 108 ((58 + (5 * v1)) + 1)) ≤ (D 108 ((8 + (5 * v4)) + 0))) ∧ ((D 108 ((8 + (5 * v4)) + 0)) ≤ (D 108 ((58 + (5 * v1)) + 2))))) → KX10_harm l E Q 54 [(0, vR E 107), (1, vI v1), (2, vI v2), (3, vI (iO v3 0)), (4, vI (v4 + 1))] G D) ∧ ((((D 108 ((58 + (5 * v1)) + 0)) ≠ 0) ∧ (((D 108 ((58 + (5 * v1)) + 0)) = 3) ∨ (((D 108 ((58 + (5 * v1)) + 0)) ≠ 1) ∧ ((D 108 ((8 + (5 * v4)) + 3)) = (D 108 ((58 + (5 * v1)) + 1))) ∨ ((D 108 ((58 + (5 * v1)) + 0)) = 1) ∧ ((D 108 ((8 + (5 * v4)) + 1)) < (D 108 ((58 + (5 * v1)) + 1))))) ∨ ((D 108 ((58 + (5 * v1)) + 0)) = 0) ∧ (((D 108 ((58 + (5 * v1)) + 1)) ≤ (D 108 ((8 + (5 * v4)) + 0))) ∧ ((D 108 ((8 + (5 * v4)) + 0)) ≤ (D 108 ((58 + (5 * v1)) + 2))))) → KX10_harm l E Q 54 [(0, vR E 107), (1, vI v1), (2, vI v2), (3, vI (iO v3 (iSl 1 v4))), (4, vI (v4 + 1))] G D))))) : KX10_harm l E Q 54 [(0, vR E 107), (1, vI v1), (2, vI v2), (3, vI v3), (4, vI v4)] G D := by
  obtain ⟨s1, h⟩ := h
  refine go_iload 4 dX10_harm_54 rfl ?_
  refine go_aload_n 0 dX10_harm_56 rfl rfl ?_
  refine go_getR 0 f_X10_7 rfl (hL.1 107 _ rfl) (hL.2.1 107 0 _ rfl (by decide)) dX10_harm_57 ?_
  refine go_iconst dX10_harm_60 ?_
  refine go_iaload (hL.1 108 _ rfl) (b := 500) rfl (by decide) (by decide) dX10_harm_61 ?_
  refine go_rngI (c := 108) (i := 0) (hL.1 108 _ rfl) rfl (fun (q2 : -2147483648 ≤ (D 108 0) ∧ (D 108 0) < 2147483648) => ?_)
  refine go_icmp_ge 92 dX10_harm_62 (by decide) s1 q2 (fun c3 => ?_) (fun c3 => ?_)
  · have h := h.1 c3
    refine go_aload_n 0 dX10_harm_92 rfl rfl ?_
    refine go_iload_n 3 dX10_harm_93 rfl rfl ?_
    refine go_vIp (M := MX10_gives) [vI v3] [] mv_X10_204 (hL.1 107 _ rfl) rfl (by decide) ⟨Nat.le_of_ble_eq_true rfl, Nat.le_of_ble_eq_true rfl⟩ ⟨Nat.le_refl _, Nat.le_refl _⟩ rfl rfl (Nat.le_of_ble_eq_true rfl) dX10_harm_94 (p_X10_gives hL) ?_
    exact go_ireturn (Nat.le_refl _) (Nat.le_refl _) rfl dX10_harm_97 h
  · have h := h.2 c3
    obtain ⟨s6, h⟩ := h
    refine go_iload_n 3 dX10_harm_65 rfl rfl ?_
    refine go_aload_n 0 dX10_harm_66 rfl rfl ?_
    refine go_iload_n 1 dX10_harm_67 rfl rfl ?_
    refine go_iload 4 dX10_harm_68 rfl ?_
    refine go_vIp (M := MX10_falls) [vI v1, vI v4] [vI v3] mv_X10_219 (hL.1 107 _ rfl) rfl (by decide) ⟨Nat.le_of_ble_eq_true rfl, Nat.le_of_ble_eq_true rfl⟩ ⟨Nat.le_refl _, Nat.le_refl _⟩ rfl rfl (Nat.le_of_ble_eq_true rfl) dX10_harm_70 (p_X10_falls hL s6.1 s6.2.1 s6.2.2.1 s6.2.2.2.1 s6.2.2.2.2.1 s6.2.2.2.2.2) ?_
    refine go_ifb_eq 83 dX10_harm_73 (by decide) (fun c8 => ?_) (fun c8 => ?_)
    · have h := h.1 c8
      refine go_iconst dX10_harm_83 ?_
      refine go_ior dX10_harm_84 ?_
      refine go_istore_n [1, 2, 3, 0, 4] (L' := [(0, vR E 107), (1, vI v1), (2, vI v2), (3, vI (iO v3 0)), (4, vI v4)]) dX10_harm_85 rfl (by decide) rfl ?_
      refine go_iinc 4 [1, 2, 3, 4, 0] (L' := [(0, vR E 107), (1, vI v1), (2, vI v2), (3, vI (iO v3 0)), (4, vI (v4 + 1))]) dX10_harm_86 (by decide) rfl rfl ?_
      refine go_goto 54 dX10_harm_89 (by decide) ?_
      exact h
    · have h := h.2 c8
      refine go_iconst dX10_harm_76 ?_
      refine go_iload 4 dX10_harm_77 rfl ?_
      refine go_ishl dX10_harm_79 ?_
      refine go_goto 84 dX10_harm_80 (by decide) ?_
      refine go_ior dX10_harm_84 ?_
      refine go_istore_n [1, 2, 3, 0, 4] (L' := [(0, vR E 107), (1, vI v1), (2, vI v2), (3, vI (iO v3 (iSl 1 v4))), (4, vI v4)]) dX10_harm_85 rfl (by decide) rfl ?_
      refine go_iinc 4 [1, 2, 3, 4, 0] (L' := [(0, vR E 107), (1, vI v1), (2, vI v2), (3, vI (iO v3 (iSl 1 v4))), (4, vI (v4 + 1))]) dX10_harm_86 (by decide) rfl rfl ?_
      refine go_goto 54 dX10_harm_89 (by decide) ?_
      exact h
theorem s_X10_family {l : Launch} {E : Ev} {Q : Int → Sh → Dm → Prop} {G : Sh} {D : Dm} (hL : Lay G) {v1 v2 : Int}  (h : ((-2147483648 ≤ v1 ∧ v1 < 2147483648)) ∧ ((¬ ((0 ≤ v1) ∧ (v1 < (D 108 2))) → Q (-1) G (upd2 D 107 1 1)) ∧ (((0 ≤ v1) ∧ (v1 < (D 108 2))) → ((-2147483648 ≤ v2 ∧ v2 < 2147483648)) ∧ ((v2 < 0 → Q (-1) G (upd2 D 107 1 1)) ∧ (0 ≤ v2 → ((v2 ≤ 3 → ((3 ≤ v2 → C0 l E MX10_held 0 [vR E 107, vI v1] G D (fun r15 D15 => Q r15 G (upd2 D15 107 1 0))) ∧ (v2 < 3 → ((0 ≤ ((88 + (3 * v1)) + v2) ∧ ((88 + (3 * v1)) + v2) < 500)) ∧ Q (D 108 ((88 + (3 * v1)) + v2)) G (upd2 D 107 1 0)))) ∧ (3 < v2 → Q (-1) G (upd2 D 107 1 1)))))))) : Ct l E MX10_family 0 0 0 [vR E 107, vI v1, vI v2] G D Q := by
  refine Ct.of (by decide) (Nat.le_of_ble_eq_true rfl) ?_
  show KX10_family l E Q 0 [(0, vR E 107), (1, vI v1), (2, vI v2)] G D
  obtain ⟨s1, h⟩ := h
  refine go_aload_n 0 dX10_family_0 rfl rfl ?_
  refine go_iload_n 1 dX10_family_1 rfl rfl ?_
  refine go_vIp (M := MX10_isFamily) [vI v1] [] mv_X10_223 (hL.1 107 _ rfl) rfl (by decide) ⟨Nat.le_of_ble_eq_true rfl, Nat.le_of_ble_eq_true rfl⟩ ⟨Nat.le_refl _, Nat.le_refl _⟩ rfl rfl (Nat.le_of_ble_eq_true rfl) dX10_family_2 (p_X10_isFamily hL s1) ?_
  refine go_ifb_eq 17 dX10_family_5 (by decide) (fun c3 => ?_) (fun c3 => ?_)
  · have h := h.1 c3
    refine go_aload_n 0 dX10_family_17 rfl rfl ?_
    refine go_iconst dX10_family_18 ?_
    refine go_vIp (M := MX10_refuse) [vI 1] [] mv_X10_194 (hL.1 107 _ rfl) rfl (by decide) ⟨Nat.le_of_ble_eq_true rfl, Nat.le_of_ble_eq_true rfl⟩ ⟨Nat.le_refl _, Nat.le_refl _⟩ rfl rfl (Nat.le_of_ble_eq_true rfl) dX10_family_19 (p_X10_refuse hL (by decide)) ?_
    exact go_ireturn (Nat.le_refl _) (Nat.le_refl _) rfl dX10_family_22 h
  · have h := h.2 c3
    obtain ⟨s6, h⟩ := h
    refine go_iload_n 2 dX10_family_8 rfl rfl ?_
    refine go_if_lt 17 dX10_family_9 (by decide) s6 (fun c7 => ?_) (fun c7 => ?_)
    · have h := h.1 c7
      refine go_aload_n 0 dX10_family_17 rfl rfl ?_
      refine go_iconst dX10_family_18 ?_
      refine go_vIp (M := MX10_refuse) [vI 1] [] mv_X10_194 (hL.1 107 _ rfl) rfl (by decide) ⟨Nat.le_of_ble_eq_true rfl, Nat.le_of_ble_eq_true rfl⟩ ⟨Nat.le_refl _, Nat.le_refl _⟩ rfl rfl (Nat.le_of_ble_eq_true rfl) dX10_family_19 (p_X10_refuse hL (by decide)) ?_
      exact go_ireturn (Nat.le_refl _) (Nat.le_refl _) rfl dX10_family_22 h
    · have h := h.2 c7
      refine go_iload_n 2 dX10_family_12 rfl rfl ?_
      refine go_iconst dX10_family_13 ?_
      refine go_icmp_le 23 dX10_family_14 (by decide) s6 (by decide) (fun c11 => ?_) (fun c11 => ?_)
      · have h := h.1 c11
        refine go_aload_n 0 dX10_family_23 rfl rfl ?_
        refine go_iload_n 2 dX10_family_24 rfl rfl ?_
        refine go_iconst dX10_family_25 ?_
        refine go_icmp_ge 38 dX10_family_26 (by decide) s6 (by decide) (fun c13 => ?_) (fun c13 => ?_)
        · have h := h.1 c13
          refine go_aload_n 0 dX10_family_38 rfl rfl ?_
          refine go_iload_n 1 dX10_family_39 rfl rfl ?_
          refine go_vI (M := MX10_held) [vI v1] [vR E 107] mv_X10_229 (hL.1 107 _ rfl) rfl (by decide) ⟨Nat.le_of_ble_eq_true rfl, Nat.le_of_ble_eq_true rfl⟩ ⟨Nat.le_refl _, Nat.le_refl _⟩ rfl rfl (Nat.le_of_ble_eq_true rfl) dX10_family_40 h (fun r15 D15 h => ?_)
          refine go_vIp (M := MX10_gives) [vI r15] [] mv_X10_204 (hL.1 107 _ rfl) rfl (by decide) ⟨Nat.le_of_ble_eq_true rfl, Nat.le_of_ble_eq_true rfl⟩ ⟨Nat.le_refl _, Nat.le_refl _⟩ rfl rfl (Nat.le_of_ble_eq_true rfl) dX10_family_43 (p_X10_gives hL) ?_
          exact go_ireturn (Nat.le_refl _) (Nat.le_refl _) rfl dX10_family_46 h
        · have h := h.2 c13
          obtain ⟨s18, h⟩ := h
          refine go_aload_n 0 dX10_family_29 rfl rfl ?_
          refine go_iload_n 1 dX10_family_30 rfl rfl ?_
          refine go_iload_n 2 dX10_family_31 rfl rfl ?_
          refine go_vIp (M := MX10_ofFamily) [vI v1, vI v2] [vR E 107] mv_X10_226 (hL.1 107 _ rfl) rfl (by decide) ⟨Nat.le_of_ble_eq_true rfl, Nat.le_of_ble_eq_true rfl⟩ ⟨Nat.le_refl _, Nat.le_refl _⟩ rfl rfl (Nat.le_of_ble_eq_true rfl) dX10_family_32 (p_X10_ofFamily hL s18) ?_
          refine go_goto 43 dX10_family_35 (by decide) ?_
          refine go_vIp (M := MX10_gives) [vI (D 108 ((88 + (3 * v1)) + v2))] [] mv_X10_204 (hL.1 107 _ rfl) rfl (by decide) ⟨Nat.le_of_ble_eq_true rfl, Nat.le_of_ble_eq_true rfl⟩ ⟨Nat.le_refl _, Nat.le_refl _⟩ rfl rfl (Nat.le_of_ble_eq_true rfl) dX10_family_43 (p_X10_gives hL) ?_
          exact go_ireturn (Nat.le_refl _) (Nat.le_refl _) rfl dX10_family_46 h
      · have h := h.2 c11
        refine go_aload_n 0 dX10_family_17 rfl rfl ?_
        refine go_iconst dX10_family_18 ?_
        refine go_vIp (M := MX10_refuse) [vI 1] [] mv_X10_194 (hL.1 107 _ rfl) rfl (by decide) ⟨Nat.le_of_ble_eq_true rfl, Nat.le_of_ble_eq_true rfl⟩ ⟨Nat.le_refl _, Nat.le_refl _⟩ rfl rfl (Nat.le_of_ble_eq_true rfl) dX10_family_19 (p_X10_refuse hL (by decide)) ?_
        exact go_ireturn (Nat.le_refl _) (Nat.le_refl _) rfl dX10_family_22 h
