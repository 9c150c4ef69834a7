theorem s_X9_status {l : Launch} {E : Ev} {Q : Int → Sh → Dm → Prop} {G : Sh} {D : Dm} (hL : Lay G)  (h : Q (D 0 11) G D) : Ct l E MX9_status 0 0 0 [vR E 0] G D Q := by
  refine Ct.of (by decide) (Nat.le_of_ble_eq_true rfl) ?_
  show KX9_status l E Q 0 [(0, vR E 0)] G D
  refine go_aload_n 0 dX9_status_0 rfl rfl ?_
  refine go_getI 11 (i := 11) f_X9_84 rfl (hL.1 0 _ rfl) dX9_status_1 ?_
  exact go_ireturn (Nat.le_refl _) (Nat.le_refl _) rfl dX9_status_4 h
theorem p_X9_status {l : Launch} {E : Ev} {G : Sh} {D : Dm} (hL : Lay G)   : C0 l E MX9_status 0 [vR E 0] G D (fun r D' => r = (D 0 11) ∧ D' = D) := s_X9_status hL ⟨rfl, rfl, rfl⟩
theorem s_X9_top {l : Launch} {E : Ev} {Q : Int → Sh → Dm → Prop} {G : Sh} {D : Dm} (hL : Lay G)  (h : Q (D 0 12) G D) : Ct l E MX9_top 1 0 0 [vR E 0] G D Q := by
  refine Ct.of (by decide) (Nat.le_of_ble_eq_true rfl) ?_
  show KX9_top l E Q 0 [(0, vR E 0)] G D
  refine go_aload_n 0 dX9_top_0 rfl rfl ?_
  refine go_getJ 12 (i := 12) f_X9_87 rfl (hL.1 0 _ rfl) dX9_top_1 ?_
  exact go_lreturn (Nat.le_refl _) (Nat.le_refl _) rfl dX9_top_4 h
theorem p_X9_top {l : Launch} {E : Ev} {G : Sh} {D : Dm} (hL : Lay G)   : C0 l E MX9_top 1 [vR E 0] G D (fun r D' => r = (D 0 12) ∧ D' = D) := s_X9_top hL ⟨rfl, rfl, rfl⟩
theorem s_X9_bottom {l : Launch} {E : Ev} {Q : Int → Sh → Dm → Prop} {G : Sh} {D : Dm} (hL : Lay G)  (h : Q (D 0 13) G D) : Ct l E MX9_bottom 1 0 0 [vR E 0] G D Q := by
  refine Ct.of (by decide) (Nat.le_of_ble_eq_true rfl) ?_
  show KX9_bottom l E Q 0 [(0, vR E 0)] G D
  refine go_aload_n 0 dX9_bottom_0 rfl rfl ?_
  refine go_getJ 13 (i := 13) f_X9_91 rfl (hL.1 0 _ rfl) dX9_bottom_1 ?_
  exact go_lreturn (Nat.le_refl _) (Nat.le_refl _) rfl dX9_bottom_4 h
theorem p_X9_bottom {l : Launch} {E : Ev} {G : Sh} {D : Dm} (hL : Lay G)   : C0 l E MX9_bottom 1 [vR E 0] G D (fun r D' => r = (D 0 13) ∧ D' = D) := s_X9_bottom hL ⟨rfl, rfl, rfl⟩
theorem s_X9_isWithin {l : Launch} {E : Ev} {Q : Int → Sh → Dm → Prop} {G : Sh} {D : Dm} (hL : Lay G) {v0 v1 v2 : Int}  (h : ((-2147483648 ≤ v0 ∧ v0 < 2147483648) ∧ (-2147483648 ≤ v1 ∧ v1 < 2147483648)) ∧ ((v0 < v1 → Q 0 G D) ∧ (v1 ≤ v0 → ((-2147483648 ≤ v2 ∧ v2 < 2147483648)) ∧ ((v2 < v0 → Q 0 G D) ∧ (v0 ≤ v2 → Q 1 G D))))) : Ct l E MX9_isWithin 0 0 0 [vI v0, vI v1, vI v2] G D Q := by
  refine Ct.of (by decide) (Nat.le_of_ble_eq_true rfl) ?_
  show KX9_isWithin l E Q 0 [(0, vI v0), (1, vI v1), (2, vI v2)] G D
  obtain ⟨s1, h⟩ := h
  refine go_iload_n 0 dX9_isWithin_0 rfl rfl ?_
  refine go_iload_n 1 dX9_isWithin_1 rfl rfl ?_
  refine go_icmp_lt 14 dX9_isWithin_2 (by decide) s1.1 s1.2 (fun c2 => ?_) (fun c2 => ?_)
  · have h := h.1 c2
    refine go_iconst dX9_isWithin_14 ?_
    exact go_zreturn (Nat.le_refl _) (Nat.le_refl _) rfl (by decide) dX9_isWithin_15 h
  · have h := h.2 c2
    obtain ⟨s4, h⟩ := h
    refine go_iload_n 0 dX9_isWithin_5 rfl rfl ?_
    refine go_iload_n 2 dX9_isWithin_6 rfl rfl ?_
    refine go_icmp_gt 14 dX9_isWithin_7 (by decide) s1.1 s4 (fun c5 => ?_) (fun c5 => ?_)
    · have h := h.1 c5
      refine go_iconst dX9_isWithin_14 ?_
      exact go_zreturn (Nat.le_refl _) (Nat.le_refl _) rfl (by decide) dX9_isWithin_15 h
    · have h := h.2 c5
      refine go_iconst dX9_isWithin_10 ?_
      refine go_goto 15 dX9_isWithin_11 (by decide) ?_
      exact go_zreturn (Nat.le_refl _) (Nat.le_refl _) rfl (by decide) dX9_isWithin_15 h
theorem p_X9_isWithin {l : Launch} {E : Ev} {G : Sh} {D : Dm} (hL : Lay G) {v0 v1 v2 : Int}  (q0 : -2147483648 ≤ v0 ∧ v0 < 2147483648) (q1 : -2147483648 ≤ v1 ∧ v1 < 2147483648) (q2 : -2147483648 ≤ v2 ∧ v2 < 2147483648) : C0 l E MX9_isWithin 0 [vI v0, vI v1, vI v2] G D (fun r D' => r = (if ((v1 ≤ v0) ∧ (v0 ≤ v2)) then 1 else 0) ∧ D' = D) := by
  refine s_X9_isWithin hL ?_
  refine ⟨⟨q0, q1⟩, ?_⟩
  refine ⟨fun hc => ?_, fun hc => ?_⟩
  · refine ⟨rfl, ?_, rfl⟩
    (split <;> first | rfl | (exfalso; simp_all; done) | omega | simp_all)
  · refine ⟨q2, ?_⟩
    refine ⟨fun hc => ?_, fun hc => ?_⟩
    · refine ⟨rfl, ?_, rfl⟩
      (split <;> first | rfl | (exfalso; simp_all; done) | omega | simp_all)
    · refine ⟨rfl, ?_, rfl⟩
      (split <;> first | rfl | (exfalso; simp_all; done) | omega | simp_all)
theorem s_X9_isTray {l : Launch} {E : Ev} {Q : Int → Sh → Dm → Prop} {G : Sh} {D : Dm} (hL : Lay G) {v0 : Int}  (h : ((-2147483648 ≤ v0 ∧ v0 < 2147483648)) ∧ Q (if ((0 ≤ v0) ∧ (v0 ≤ 3)) then 1 else 0) G D) : Ct l E MX9_isTray 0 0 0 [vI v0] G D Q := by
  refine Ct.of (by decide) (Nat.le_of_ble_eq_true rfl) ?_
  show KX9_isTray l E Q 0 [(0, vI v0)] G D
  obtain ⟨s1, h⟩ := h
  refine go_iload_n 0 dX9_isTray_0 rfl rfl ?_
  refine go_iconst dX9_isTray_1 ?_
  refine go_iconst dX9_isTray_2 ?_
  refine go_sIp (M := MX9_isWithin) [vI v0, vI 0, vI 3] [] ms_X9_107 ⟨Nat.le_of_ble_eq_true rfl, Nat.le_of_ble_eq_true rfl⟩ ⟨Nat.le_refl _, Nat.le_refl _⟩ rfl rfl (Nat.le_of_ble_eq_true rfl) dX9_isTray_3 (p_X9_isWithin hL s1 (by decide) (by decide)) ?_
  exact go_zreturn (Nat.le_refl _) (Nat.le_refl _) rfl (b01 _) dX9_isTray_6 h
theorem p_X9_isTray {l : Launch} {E : Ev} {G : Sh} {D : Dm} (hL : Lay G) {v0 : Int}  (q0 : -2147483648 ≤ v0 ∧ v0 < 2147483648) : C0 l E MX9_isTray 0 [vI v0] G D (fun r D' => r = (if ((0 ≤ v0) ∧ (v0 ≤ 3)) then 1 else 0) ∧ D' = D) := s_X9_isTray hL ⟨q0, ⟨rfl, rfl, rfl⟩⟩
theorem s_X9_refuse {l : Launch} {E : Ev} {Q : Int → Sh → Dm → Prop} {G : Sh} {D : Dm} (hL : Lay G) {v1 : Int}  (h : ((-2147483648 ≤ v1 ∧ v1 < 2147483648)) ∧ Q 0 G (upd2 D 0 11 v1)) : Ct l E MX9_refuse 0 0 0 [vR E 0, vI v1] G D Q := by
  refine Ct.of (by decide) (Nat.le_of_ble_eq_true rfl) ?_
  show KX9_refuse l E Q 0 [(0, vR E 0), (1, vI v1)] G D
  obtain ⟨s1, h⟩ := h
  refine go_aload_n 0 dX9_refuse_0 rfl rfl ?_
  refine go_iload_n 1 dX9_refuse_1 rfl rfl ?_
  refine go_putI 11 (i := 11) s1 f_X9_84 rfl (hL.1 0 _ rfl) dX9_refuse_2 ?_
  refine go_iconst dX9_refuse_5 ?_
  exact go_zreturn (Nat.le_refl _) (Nat.le_refl _) rfl (by decide) dX9_refuse_6 h
theorem p_X9_refuse {l : Launch} {E : Ev} {G : Sh} {D : Dm} (hL : Lay G) {v1 : Int}  (q0 : -2147483648 ≤ v1 ∧ v1 < 2147483648) : C0 l E MX9_refuse 0 [vR E 0, vI v1] G D (fun r D' => r = 0 ∧ D' = (upd2 D 0 11 v1)) := s_X9_refuse hL ⟨q0, ⟨rfl, rfl, rfl⟩⟩
theorem s_X9_agree {l : Launch} {E : Ev} {Q : Int → Sh → Dm → Prop} {G : Sh} {D : Dm} (hL : Lay G)  (h : Q 1 G (upd2 D 0 11 0)) : Ct l E MX9_agree 0 0 0 [vR E 0] G D Q := by
  refine Ct.of (by decide) (Nat.le_of_ble_eq_true rfl) ?_
  show KX9_agree l E Q 0 [(0, vR E 0)] G D
  refine go_aload_n 0 dX9_agree_0 rfl rfl ?_
  refine go_iconst dX9_agree_1 ?_
  refine go_putI 11 (i := 11) (by decide) f_X9_84 rfl (hL.1 0 _ rfl) dX9_agree_2 ?_
  refine go_iconst dX9_agree_5 ?_
  exact go_zreturn (Nat.le_refl _) (Nat.le_refl _) rfl (by decide) dX9_agree_6 h
theorem p_X9_agree {l : Launch} {E : Ev} {G : Sh} {D : Dm} (hL : Lay G)   : C0 l E MX9_agree 0 [vR E 0] G D (fun r D' => r = 1 ∧ D' = (upd2 D 0 11 0)) := s_X9_agree hL ⟨rfl, rfl, rfl⟩
theorem s_X9_tray {l : Launch} {E : Ev} {Q : Int → Sh → Dm → Prop} {G : Sh} {D : Dm} (hL : Lay G) {v1 v2 v3 : Int}  (h : ((-2147483648 ≤ v1 ∧ v1 < 2147483648)) ∧ ((¬ ((0 ≤ v1) ∧ (v1 ≤ 3)) → Q 0 G (upd2 D 0 11 1)) ∧ (((0 ≤ v1) ∧ (v1 ≤ 3)) → ((-2147483648 ≤ v2 ∧ v2 < 2147483648)) ∧ ((¬ ((0 ≤ v2) ∧ (v2 ≤ 3)) → Q 0 G (upd2 D 0 11 1)) ∧ (((0 ≤ v2) ∧ (v2 ≤ 3)) → ((-2147483648 ≤ v3 ∧ v3 < 2147483648)) ∧ ((((0 ≤ v3) ∧ (v3 ≤ 60)) → C0 l E MX7_lay 2 [vR E 15, vI v1, vI v2, vI v3] G D (fun r15 D15 => Q 1 G (upd2 D15 0 11 0))) ∧ (¬ ((0 ≤ v3) ∧ (v3 ≤ 60)) → Q 0 G (upd2 D 0 11 1)))))))) : Ct l E MX9_tray 0 0 0 [vR E 0, vI v1, vI v2, vI v3] G D Q := by
  refine Ct.of (by decide) (Nat.le_of_ble_eq_true rfl) ?_
  show KX9_tray l E Q 0 [(0, vR E 0), (1, vI v1), (2, vI v2), (3, vI v3)] G D
  obtain ⟨s1, h⟩ := h
  refine go_iload_n 1 dX9_tray_0 rfl rfl ?_
  refine go_sIp (M := MX9_isTray) [vI v1] [] ms_X9_103 ⟨Nat.le_of_ble_eq_true rfl, Nat.le_of_ble_eq_true rfl⟩ ⟨Nat.le_refl _, Nat.le_refl _⟩ rfl rfl (Nat.le_of_ble_eq_true rfl) dX9_tray_1 (p_X9_isTray hL s1) ?_
  refine go_ifb_eq 26 dX9_tray_4 (by decide) (fun c3 => ?_) (fun c3 => ?_)
  · have h := h.1 c3
    refine go_aload_n 0 dX9_tray_26 rfl rfl ?_
    refine go_iconst dX9_tray_27 ?_
    refine go_vIp (M := MX9_refuse) [vI 1] [] mv_X9_111 (hL.1 0 _ rfl) rfl (by decide) ⟨Nat.le_of_ble_eq_true rfl, Nat.le_of_ble_eq_true rfl⟩ ⟨Nat.le_refl _, Nat.le_refl _⟩ rfl rfl (Nat.le_of_ble_eq_true rfl) dX9_tray_28 (p_X9_refuse hL (by decide)) ?_
    exact go_zreturn (Nat.le_refl _) (Nat.le_refl _) rfl (by decide) dX9_tray_31 h
  · have h := h.2 c3
    obtain ⟨s6, h⟩ := h
    refine go_iload_n 2 dX9_tray_7 rfl rfl ?_
    refine go_iconst dX9_tray_8 ?_
    refine go_iconst dX9_tray_9 ?_
    refine go_sIp (M := MX9_isWithin) [vI v2, vI 0, vI 3] [] ms_X9_107 ⟨Nat.le_of_ble_eq_true rfl, Nat.le_of_ble_eq_true rfl⟩ ⟨Nat.le_refl _, Nat.le_refl _⟩ rfl rfl (Nat.le_of_ble_eq_true rfl) dX9_tray_10 (p_X9_isWithin hL s6 (by decide) (by decide)) ?_
    refine go_ifb_eq 26 dX9_tray_13 (by decide) (fun c8 => ?_) (fun c8 => ?_)
    · have h := h.1 c8
      refine go_aload_n 0 dX9_tray_26 rfl rfl ?_
      refine go_iconst dX9_tray_27 ?_
      refine go_vIp (M := MX9_refuse) [vI 1] [] mv_X9_111 (hL.1 0 _ rfl) rfl (by decide) ⟨Nat.le_of_ble_eq_true rfl, Nat.le_of_ble_eq_true rfl⟩ ⟨Nat.le_refl _, Nat.le_refl _⟩ rfl rfl (Nat.le_of_ble_eq_true rfl) dX9_tray_28 (p_X9_refuse hL (by decide)) ?_
      exact go_zreturn (Nat.le_refl _) (Nat.le_refl _) rfl (by decide) dX9_tray_31 h
    · have h := h.2 c8
      obtain ⟨s11, h⟩ := h
      refine go_iload_n 3 dX9_tray_16 rfl rfl ?_
      refine go_iconst dX9_tray_17 ?_
      refine go_bipush dX9_tray_18 (by decide) ?_
      refine go_sIp (M := MX9_isWithin) [vI v3, vI 0, vI 60] [] ms_X9_107 ⟨Nat.le_of_ble_eq_true rfl, Nat.le_of_ble_eq_true rfl⟩ ⟨Nat.le_refl _, Nat.le_refl _⟩ rfl rfl (Nat.le_of_ble_eq_true rfl) dX9_tray_20 (p_X9_isWithin hL s11 (by decide) (by decide)) ?_
      refine go_ifb_ne 32 dX9_tray_23 (by decide) (fun c13 => ?_) (fun c13 => ?_)
      · have h := h.1 c13
        refine go_aload_n 0 dX9_tray_32 rfl rfl ?_
        refine go_getR 3 f_X9_27 rfl (hL.1 0 _ rfl) (hL.2.1 0 3 _ rfl (by decide)) dX9_tray_33 ?_
        refine go_iload_n 1 dX9_tray_36 rfl rfl ?_
        refine go_iload_n 2 dX9_tray_37 rfl rfl ?_
        refine go_iload_n 3 dX9_tray_38 rfl rfl ?_
        refine go_vV (M := MX7_lay) [vI v1, vI v2, vI v3] [] mv_X9_114 (hL.1 15 _ rfl) rfl (by decide) ⟨Nat.le_of_ble_eq_true rfl, Nat.le_of_ble_eq_true rfl⟩ ⟨Nat.le_refl _, Nat.le_refl _⟩ rfl rfl (Nat.le_of_ble_eq_true rfl) dX9_tray_39 h (fun r15 D15 h => ?_)
        refine go_aload_n 0 dX9_tray_42 rfl rfl ?_
        refine go_vIp (M := MX9_agree) [] [] mv_X9_118 (hL.1 0 _ rfl) rfl (by decide) ⟨Nat.le_of_ble_eq_true rfl, Nat.le_of_ble_eq_true rfl⟩ ⟨Nat.le_refl _, Nat.le_refl _⟩ rfl rfl (Nat.le_of_ble_eq_true rfl) dX9_tray_43 (p_X9_agree hL) ?_
        exact go_zreturn (Nat.le_refl _) (Nat.le_refl _) rfl (by decide) dX9_tray_46 h
      · have h := h.2 c13
        refine go_aload_n 0 dX9_tray_26 rfl rfl ?_
        refine go_iconst dX9_tray_27 ?_
        refine go_vIp (M := MX9_refuse) [vI 1] [] mv_X9_111 (hL.1 0 _ rfl) rfl (by decide) ⟨Nat.le_of_ble_eq_true rfl, Nat.le_of_ble_eq_true rfl⟩ ⟨Nat.le_refl _, Nat.le_refl _⟩ rfl rfl (Nat.le_of_ble_eq_true rfl) dX9_tray_28 (p_X9_refuse hL (by decide)) ?_
        exact go_zreturn (Nat.le_refl _) (Nat.le_refl _) rfl (by decide) dX9_tray_31 h
theorem s_X9_whyNoPlace {l : Launch} {E : Ev} {Q : Int → Sh → Dm → Prop} {G : Sh} {D : Dm} (hL : Lay G) {v1 v2 : Int}  (h : ((-2147483648 ≤ v1 ∧ v1 < 2147483648)) ∧ ((((0 ≤ v1) ∧ (v1 ≤ 3)) → ((0 ≤ v1 ∧ v1 < 4)) ∧ ((¬ ((D 22 v1) = (-1)) → ((-2147483648 ≤ v2 ∧ v2 < 2147483648)) ∧ ((v2 < 0 → Q 3 G D) ∧ (0 ≤ v2 → ((v2 < (D 22 v1) → Q 0 G D) ∧ ((D 22 v1) ≤ v2 → Q 3 G D))))) ∧ (((D 22 v1) = (-1)) → Q 2 G D))) ∧ (¬ ((0 ≤ v1) ∧ (v1 ≤ 3)) → Q 1 G D))) : Ct l E MX9_whyNoPlace 0 0 0 [vR E 0, vI v1, vI v2] G D Q := by
  refine Ct.of (by decide) (Nat.le_of_ble_eq_true rfl) ?_
  show KX9_whyNoPlace l E Q 0 [(0, vR E 0), (1, vI v1), (2, vI v2)] G D
  obtain ⟨s1, h⟩ := h
  refine go_iload_n 1 dX9_whyNoPlace_0 rfl rfl ?_
  refine go_sIp (M := MX9_isTray) [vI v1] [] ms_X9_103 ⟨Nat.le_of_ble_eq_true rfl, Nat.le_of_ble_eq_true rfl⟩ ⟨Nat.le_refl _, Nat.le_refl _⟩ rfl rfl (Nat.le_of_ble_eq_true rfl) dX9_whyNoPlace_1 (p_X9_isTray hL s1) ?_
  refine go_ifb_ne 9 dX9_whyNoPlace_4 (by decide) (fun c3 => ?_) (fun c3 => ?_)
  · have h := h.1 c3
    obtain ⟨s4, h⟩ := h
    refine go_aload_n 0 dX9_whyNoPlace_9 rfl rfl ?_
    refine go_getR 3 f_X9_27 rfl (hL.1 0 _ rfl) (hL.2.1 0 3 _ rfl (by decide)) dX9_whyNoPlace_10 ?_
    refine go_iload_n 1 dX9_whyNoPlace_13 rfl rfl ?_
    refine go_vIp (M := MX7_isMissing) [vI v1] [] mv_X9_138 (hL.1 15 _ rfl) rfl (by decide) ⟨Nat.le_of_ble_eq_true rfl, Nat.le_of_ble_eq_true rfl⟩ ⟨Nat.le_refl _, Nat.le_refl _⟩ rfl rfl (Nat.le_of_ble_eq_true rfl) dX9_whyNoPlace_14 (p_X7_isMissing hL s4) ?_
    refine go_ifb_eq 22 dX9_whyNoPlace_17 (by decide) (fun c6 => ?_) (fun c6 => ?_)
    · have h := h.1 c6
      obtain ⟨s7, h⟩ := h
      refine go_iload_n 2 dX9_whyNoPlace_22 rfl rfl ?_
      refine go_if_lt 39 dX9_whyNoPlace_23 (by decide) s7 (fun c8 => ?_) (fun c8 => ?_)
      · have h := h.1 c8
        refine go_iconst dX9_whyNoPlace_39 ?_
        refine go_goto 44 dX9_whyNoPlace_40 (by decide) ?_
        exact go_ireturn (Nat.le_refl _) (Nat.le_refl _) rfl dX9_whyNoPlace_44 h
      · have h := h.2 c8
        refine go_iload_n 2 dX9_whyNoPlace_26 rfl rfl ?_
        refine go_aload_n 0 dX9_whyNoPlace_27 rfl rfl ?_
        refine go_getR 3 f_X9_27 rfl (hL.1 0 _ rfl) (hL.2.1 0 3 _ rfl (by decide)) dX9_whyNoPlace_28 ?_
        refine go_getR 2 f_X9_389 rfl (hL.1 15 _ rfl) (hL.2.1 15 2 _ rfl (by decide)) dX9_whyNoPlace_31 ?_
        refine go_iload_n 1 dX9_whyNoPlace_34 rfl rfl ?_
        refine go_iaload (hL.1 22 _ rfl) (b := 4) rfl (by decide) s4 dX9_whyNoPlace_35 ?_
        refine go_rngI (c := 22) (i := v1) (hL.1 22 _ rfl) rfl (fun (q11 : -2147483648 ≤ (D 22 v1) ∧ (D 22 v1) < 2147483648) => ?_)
        refine go_icmp_lt 43 dX9_whyNoPlace_36 (by decide) s7 q11 (fun c12 => ?_) (fun c12 => ?_)
        · have h := h.1 c12
          refine go_iconst dX9_whyNoPlace_43 ?_
          exact go_ireturn (Nat.le_refl _) (Nat.le_refl _) rfl dX9_whyNoPlace_44 h
        · have h := h.2 c12
          refine go_iconst dX9_whyNoPlace_39 ?_
          refine go_goto 44 dX9_whyNoPlace_40 (by decide) ?_
          exact go_ireturn (Nat.le_refl _) (Nat.le_refl _) rfl dX9_whyNoPlace_44 h
    · have h := h.2 c6
      refine go_iconst dX9_whyNoPlace_20 ?_
      exact go_ireturn (Nat.le_refl _) (Nat.le_refl _) rfl dX9_whyNoPlace_21 h
  · have h := h.2 c3
    refine go_iconst dX9_whyNoPlace_7 ?_
    exact go_ireturn (Nat.le_refl _) (Nat.le_refl _) rfl dX9_whyNoPlace_8 h
theorem s_X9_write {l : Launch} {E : Ev} {Q : Int → Sh → Dm → Prop} {G : Sh} {D : Dm} (hL : Lay G) {v1 v2 v3 : Int}  (h : C0 l E MX9_whyNoPlace 0 [vR E 0, vI v1, vI v2] G D (fun r2 D2 => ((-2147483648 ≤ r2 ∧ r2 < 2147483648)) ∧ ((r2 = 0 → C0 l E MX7_put 2 [vR E 15, vI v1, vI v2, vJ v3] G D2 (fun r6 D6 => Q 1 G (upd2 D6 0 11 0))) ∧ (r2 ≠ 0 → Q 0 G (upd2 D2 0 11 r2))))) : Ct l E MX9_write 0 0 0 [vR E 0, vI v1, vI v2, vJ v3] G D Q := by
  refine Ct.of (by decide) (Nat.le_of_ble_eq_true rfl) ?_
  show KX9_write l E Q 0 [(0, vR E 0), (1, vI v1), (2, vI v2), (3, vJ v3)] G D
  refine go_aload_n 0 dX9_write_0 rfl rfl ?_
  refine go_iload_n 1 dX9_write_1 rfl rfl ?_
  refine go_iload_n 2 dX9_write_2 rfl rfl ?_
  refine go_vI (M := MX9_whyNoPlace) [vI v1, vI v2] [] mv_X9_122 (hL.1 0 _ rfl) rfl (by decide) ⟨Nat.le_of_ble_eq_true rfl, Nat.le_of_ble_eq_true rfl⟩ ⟨Nat.le_refl _, Nat.le_refl _⟩ rfl rfl (Nat.le_of_ble_eq_true rfl) dX9_write_3 h (fun r2 D2 h => ?_)
  obtain ⟨s3, h⟩ := h
  refine go_istore [1, 2, 3, 4, 0] (L' := [(0, vR E 0), (1, vI v1), (2, vI v2), (3, vJ v3), (5, vI r2)]) dX9_write_6 (by decide) rfl ?_
  refine go_iload 4 dX9_write_8 rfl ?_
  refine go_if_eq 20 dX9_write_10 (by decide) s3 (fun c4 => ?_) (fun c4 => ?_)
  · have h := h.1 c4
    refine go_aload_n 0 dX9_write_20 rfl rfl ?_
    refine go_getR 3 f_X9_27 rfl (hL.1 0 _ rfl) (hL.2.1 0 3 _ rfl (by decide)) dX9_write_21 ?_
    refine go_iload_n 1 dX9_write_24 rfl rfl ?_
    refine go_iload_n 2 dX9_write_25 rfl rfl ?_
    refine go_lload_n 3 dX9_write_26 rfl rfl ?_
    refine go_vV (M := MX7_put) [vI v1, vI v2, vJ v3] [] mv_X9_126 (hL.1 15 _ rfl) rfl (by decide) ⟨Nat.le_of_ble_eq_true rfl, Nat.le_of_ble_eq_true rfl⟩ ⟨Nat.le_refl _, Nat.le_refl _⟩ rfl rfl (Nat.le_of_ble_eq_true rfl) dX9_write_27 h (fun r6 D6 h => ?_)
    refine go_aload_n 0 dX9_write_30 rfl rfl ?_
    refine go_vIp (M := MX9_agree) [] [] mv_X9_118 (hL.1 0 _ rfl) rfl (by decide) ⟨Nat.le_of_ble_eq_true rfl, Nat.le_of_ble_eq_true rfl⟩ ⟨Nat.le_refl _, Nat.le_refl _⟩ rfl rfl (Nat.le_of_ble_eq_true rfl) dX9_write_31 (p_X9_agree hL) ?_
    exact go_zreturn (Nat.le_refl _) (Nat.le_refl _) rfl (by decide) dX9_write_34 h
  · have h := h.2 c4
    refine go_aload_n 0 dX9_write_13 rfl rfl ?_
    refine go_iload 4 dX9_write_14 rfl ?_
    refine go_vIp (M := MX9_refuse) [vI r2] [] mv_X9_111 (hL.1 0 _ rfl) rfl (by decide) ⟨Nat.le_of_ble_eq_true rfl, Nat.le_of_ble_eq_true rfl⟩ ⟨Nat.le_refl _, Nat.le_refl _⟩ rfl rfl (Nat.le_of_ble_eq_true rfl) dX9_write_16 (p_X9_refuse hL s3) ?_
    exact go_zreturn (Nat.le_refl _) (Nat.le_refl _) rfl (by decide) dX9_write_19 h
theorem s_X9_none {l : Launch} {E : Ev} {Q : Int → Sh → Dm → Prop} {G : Sh} {D : Dm} (hL : Lay G) {v1 : Int}  (h : ((-2147483648 ≤ v1 ∧ v1 < 2147483648)) ∧ Q (-1) G (upd2 D 0 11 v1)) : Ct l E MX9_none 0 0 0 [vR E 0, vI v1] G D Q := by
  refine Ct.of (by decide) (Nat.le_of_ble_eq_true rfl) ?_
  show KX9_none l E Q 0 [(0, vR E 0), (1, vI v1)] G D
  obtain ⟨s1, h⟩ := h
  refine go_aload_n 0 dX9_none_0 rfl rfl ?_
  refine go_iload_n 1 dX9_none_1 rfl rfl ?_
  refine go_putI 11 (i := 11) s1 f_X9_84 rfl (hL.1 0 _ rfl) dX9_none_2 ?_
  refine go_iconst dX9_none_5 ?_
  exact go_ireturn (Nat.le_refl _) (Nat.le_refl _) rfl dX9_none_6 h
theorem p_X9_none {l : Launch} {E : Ev} {G : Sh} {D : Dm} (hL : Lay G) {v1 : Int}  (q0 : -2147483648 ≤ v1 ∧ v1 < 2147483648) : C0 l E MX9_none 0 [vR E 0, vI v1] G D (fun r D' => r = (-1) ∧ D' = (upd2 D 0 11 v1)) := s_X9_none hL ⟨q0, ⟨rfl, rfl, rfl⟩⟩
theorem s_X9_read {l : Launch} {E : Ev} {Q : Int → Sh → Dm → Prop} {G : Sh} {D : Dm} (hL : Lay G) {v1 v2 : Int}  (h : C0 l E MX9_whyNoPlace 0 [vR E 0, vI v1, vI v2] G D (fun r2 D2 => ((-2147483648 ≤ r2 ∧ r2 < 2147483648)) ∧ ((r2 = 0 → ((0 ≤ v1 ∧ v1 < 4) ∧ (0 ≤ v2 ∧ v2 < 60)) ∧ Q ((upd2 D2 0 11 0) (17 + Int.toNat v1) v2) G (upd2 D2 0 11 0)) ∧ (r2 ≠ 0 → Q (-1) G (upd2 D2 0 11 r2))))) : Ct l E MX9_read 1 0 0 [vR E 0, vI v1, vI v2] G D Q := by
  refine Ct.of (by decide) (Nat.le_of_ble_eq_true rfl) ?_
  show KX9_read l E Q 0 [(0, vR E 0), (1, vI v1), (2, vI v2)] G D
  refine go_aload_n 0 dX9_read_0 rfl rfl ?_
  refine go_iload_n 1 dX9_read_1 rfl rfl ?_
  refine go_iload_n 2 dX9_read_2 rfl rfl ?_
  refine go_vI (M := MX9_whyNoPlace) [vI v1, vI v2] [] mv_X9_122 (hL.1 0 _ rfl) rfl (by decide) ⟨Nat.le_of_ble_eq_true rfl, Nat.le_of_ble_eq_true rfl⟩ ⟨Nat.le_refl _, Nat.le_refl _⟩ rfl rfl (Nat.le_of_ble_eq_true rfl) dX9_read_3 h (fun r2 D2 h => ?_)
  obtain ⟨s3, h⟩ := h
  refine go_istore_n [1, 2, 3, 0] (L' := [(0, vR E 0), (1, vI v1), (2, vI v2), (3, vI r2)]) dX9_read_6 rfl (by decide) rfl ?_
  refine go_iload_n 3 dX9_read_7 rfl rfl ?_
  refine go_if_eq 18 dX9_read_8 (by decide) s3 (fun c4 => ?_) (fun c4 => ?_)
  · have h := h.1 c4
    obtain ⟨s5, h⟩ := h
    refine go_aload_n 0 dX9_read_18 rfl rfl ?_
    refine go_vIp (M := MX9_agree) [] [] mv_X9_118 (hL.1 0 _ rfl) rfl (by decide) ⟨Nat.le_of_ble_eq_true rfl, Nat.le_of_ble_eq_true rfl⟩ ⟨Nat.le_refl _, Nat.le_refl _⟩ rfl rfl (Nat.le_of_ble_eq_true rfl) dX9_read_19 (p_X9_agree hL) ?_
    refine go_pop rfl dX9_read_22 ?_
    refine go_aload_n 0 dX9_read_23 rfl rfl ?_
    refine go_getR 3 f_X9_27 rfl (hL.1 0 _ rfl) (hL.2.1 0 3 _ rfl (by decide)) dX9_read_24 ?_
    refine go_getR 0 f_X9_134 rfl (hL.1 15 _ rfl) (hL.2.1 15 0 _ rfl (by decide)) dX9_read_27 ?_
    refine go_iload_n 1 dX9_read_30 rfl rfl ?_
    refine go_aaload (Or.inr rfl) (hL.1 16 _ rfl) (b := 4) rfl (by decide) s5.1 (lay_row hL s5.1) dX9_read_31 ?_
    refine go_iload_n 2 dX9_read_32 rfl rfl ?_
    refine go_laload (lay_rowT hL s5.1) (b := 60) rfl (by decide) s5.2 dX9_read_33 ?_
    exact go_lreturn (Nat.le_refl _) (Nat.le_refl _) rfl dX9_read_34 h
  · have h := h.2 c4
    refine go_aload_n 0 dX9_read_11 rfl rfl ?_
    refine go_iload_n 3 dX9_read_12 rfl rfl ?_
    refine go_vIp (M := MX9_none) [vI r2] [] mv_X9_130 (hL.1 0 _ rfl) rfl (by decide) ⟨Nat.le_of_ble_eq_true rfl, Nat.le_of_ble_eq_true rfl⟩ ⟨Nat.le_refl _, Nat.le_refl _⟩ rfl rfl (Nat.le_of_ble_eq_true rfl) dX9_read_13 (p_X9_none hL s3) ?_
    refine go_i2l (by decide) dX9_read_16 ?_
    exact go_lreturn (Nat.le_refl _) (Nat.le_refl _) rfl dX9_read_17 h
theorem s_X9_pour {l : Launch} {E : Ev} {Q : Int → Sh → Dm → Prop} {G : Sh} {D : Dm} (hL : Lay G) {v1 v2 v3 v4 v5 : Int}  (h : ((-2147483648 ≤ v1 ∧ v1 < 2147483648)) ∧ ((¬ ((0 ≤ v1) ∧ (v1 ≤ 3)) → Q 0 G (upd2 D 0 11 1)) ∧ (((0 ≤ v1) ∧ (v1 ≤ 3)) → ((-2147483648 ≤ v3 ∧ v3 < 2147483648)) ∧ ((¬ ((0 ≤ v3) ∧ (v3 ≤ 3)) → Q 0 G (upd2 D 0 11 1)) ∧ (((0 ≤ v3) ∧ (v3 ≤ 3)) → ((-2147483648 ≤ v2 ∧ v2 < 2147483648)) ∧ ((v2 < 0 → Q 0 G (upd2 D 0 11 1)) ∧ (0 ≤ v2 → ((-2147483648 ≤ v4 ∧ v4 < 2147483648)) ∧ ((v4 < 0 → Q 0 G (upd2 D 0 11 1)) ∧ (0 ≤ v4 → ((-2147483648 ≤ v5 ∧ v5 < 2147483648)) ∧ ((0 ≤ v5 → ((0 ≤ v1 ∧ v1 < 4)) ∧ ((((D 22 v1) = (-1)) → Q 0 G (upd2 D 0 11 2)) ∧ (¬ ((D 22 v1) = (-1)) → ((0 ≤ v3 ∧ v3 < 4)) ∧ ((¬ ((D 22 v3) = (-1)) → (((D 21 v1) = (D 21 v3) → ((-9223372036854775808 ≤ (v2 + v5) ∧ (v2 + v5) < 9223372036854775808)) ∧ ((¬ ((v2 + v5) ≤ (D 22 v1)) → Q 0 G (upd2 D 0 11 3)) ∧ (((v2 + v5) ≤ (D 22 v1)) → ((-9223372036854775808 ≤ (v4 + v5) ∧ (v4 + v5) < 9223372036854775808)) ∧ ((((v4 + v5) ≤ (D 22 v3)) → C0 l E MX7_move 2 [vR E 15, vI v1, vI v2, vI v3, vI v4, vI v5] G D (fun r42 D42 => Q 1 G (upd2 D42 0 11 0))) ∧ (¬ ((v4 + v5) ≤ (D 22 v3)) → Q 0 G (upd2 D 0 11 3)))))) ∧ ((D 21 v1) ≠ (D 21 v3) → Q 0 G (upd2 D 0 11 8)))) ∧ (((D 22 v3) = (-1)) → Q 0 G (upd2 D 0 11 2)))))) ∧ (v5 < 0 → Q 0 G (upd2 D 0 11 1)))))))))))) : Ct l E MX9_pour 0 0 0 [vR E 0, vI v1, vI v2, vI v3, vI v4, vI v5] G D Q := by
  refine Ct.of (by decide) (Nat.le_of_ble_eq_true rfl) ?_
  show KX9_pour l E Q 0 [(0, vR E 0), (1, vI v1), (2, vI v2), (3, vI v3), (4, vI v4), (5, vI v5)] G D
  obtain ⟨s1, h⟩ := h
  refine go_iload_n 1 dX9_pour_0 rfl rfl ?_
  refine go_sIp (M := MX9_isTray) [vI v1] [] ms_X9_103 ⟨Nat.le_of_ble_eq_true rfl, Nat.le_of_ble_eq_true rfl⟩ ⟨Nat.le_refl _, Nat.le_refl _⟩ rfl rfl (Nat.le_of_ble_eq_true rfl) dX9_pour_1 (p_X9_isTray hL s1) ?_
  refine go_ifb_eq 28 dX9_pour_4 (by decide) (fun c3 => ?_) (fun c3 => ?_)
  · have h := h.1 c3
    refine go_aload_n 0 dX9_pour_28 rfl rfl ?_
    refine go_iconst dX9_pour_29 ?_
    refine go_vIp (M := MX9_refuse) [vI 1] [] mv_X9_111 (hL.1 0 _ rfl) rfl (by decide) ⟨Nat.le_of_ble_eq_true rfl, Nat.le_of_ble_eq_true rfl⟩ ⟨Nat.le_refl _, Nat.le_refl _⟩ rfl rfl (Nat.le_of_ble_eq_true rfl) dX9_pour_30 (p_X9_refuse hL (by decide)) ?_
    exact go_zreturn (Nat.le_refl _) (Nat.le_refl _) rfl (by decide) dX9_pour_33 h
  · have h := h.2 c3
    obtain ⟨s6, h⟩ := h
    refine go_iload_n 3 dX9_pour_7 rfl rfl ?_
    refine go_sIp (M := MX9_isTray) [vI v3] [] ms_X9_103 ⟨Nat.le_of_ble_eq_true rfl, Nat.le_of_ble_eq_true rfl⟩ ⟨Nat.le_refl _, Nat.le_refl _⟩ rfl rfl (Nat.le_of_ble_eq_true rfl) dX9_pour_8 (p_X9_isTray hL s6) ?_
    refine go_ifb_eq 28 dX9_pour_11 (by decide) (fun c8 => ?_) (fun c8 => ?_)
    · have h := h.1 c8
      refine go_aload_n 0 dX9_pour_28 rfl rfl ?_
      refine go_iconst dX9_pour_29 ?_
      refine go_vIp (M := MX9_refuse) [vI 1] [] mv_X9_111 (hL.1 0 _ rfl) rfl (by decide) ⟨Nat.le_of_ble_eq_true rfl, Nat.le_of_ble_eq_true rfl⟩ ⟨Nat.le_refl _, Nat.le_refl _⟩ rfl rfl (Nat.le_of_ble_eq_true rfl) dX9_pour_30 (p_X9_refuse hL (by decide)) ?_
      exact go_zreturn (Nat.le_refl _) (Nat.le_refl _) rfl (by decide) dX9_pour_33 h
    · have h := h.2 c8
      obtain ⟨s11, h⟩ := h
      refine go_iload_n 2 dX9_pour_14 rfl rfl ?_
      refine go_if_lt 28 dX9_pour_15 (by decide) s11 (fun c12 => ?_) (fun c12 => ?_)
      · have h := h.1 c12
        refine go_aload_n 0 dX9_pour_28 rfl rfl ?_
        refine go_iconst dX9_pour_29 ?_
        refine go_vIp (M := MX9_refuse) [vI 1] [] mv_X9_111 (hL.1 0 _ rfl) rfl (by decide) ⟨Nat.le_of_ble_eq_true rfl, Nat.le_of_ble_eq_true rfl⟩ ⟨Nat.le_refl _, Nat.le_refl _⟩ rfl rfl (Nat.le_of_ble_eq_true rfl) dX9_pour_30 (p_X9_refuse hL (by decide)) ?_
        exact go_zreturn (Nat.le_refl _) (Nat.le_refl _) rfl (by decide) dX9_pour_33 h
      · have h := h.2 c12
        obtain ⟨s15, h⟩ := h
        refine go_iload 4 dX9_pour_18 rfl ?_
        refine go_if_lt 28 dX9_pour_20 (by decide) s15 (fun c16 => ?_) (fun c16 => ?_)
        · have h := h.1 c16
          refine go_aload_n 0 dX9_pour_28 rfl rfl ?_
          refine go_iconst dX9_pour_29 ?_
          refine go_vIp (M := MX9_refuse) [vI 1] [] mv_X9_111 (hL.1 0 _ rfl) rfl (by decide) ⟨Nat.le_of_ble_eq_true rfl, Nat.le_of_ble_eq_true rfl⟩ ⟨Nat.le_refl _, Nat.le_refl _⟩ rfl rfl (Nat.le_of_ble_eq_true rfl) dX9_pour_30 (p_X9_refuse hL (by decide)) ?_
          exact go_zreturn (Nat.le_refl _) (Nat.le_refl _) rfl (by decide) dX9_pour_33 h
        · have h := h.2 c16
          obtain ⟨s19, h⟩ := h
          refine go_iload 5 dX9_pour_23 rfl ?_
          refine go_if_ge 34 dX9_pour_25 (by decide) s19 (fun c20 => ?_) (fun c20 => ?_)
          · have h := h.1 c20
            obtain ⟨s21, h⟩ := h
            refine go_aload_n 0 dX9_pour_34 rfl rfl ?_
            refine go_getR 3 f_X9_27 rfl (hL.1 0 _ rfl) (hL.2.1 0 3 _ rfl (by decide)) dX9_pour_35 ?_
            refine go_iload_n 1 dX9_pour_38 rfl rfl ?_
            refine go_vIp (M := MX7_isMissing) [vI v1] [] mv_X9_138 (hL.1 15 _ rfl) rfl (by decide) ⟨Nat.le_of_ble_eq_true rfl, Nat.le_of_ble_eq_true rfl⟩ ⟨Nat.le_refl _, Nat.le_refl _⟩ rfl rfl (Nat.le_of_ble_eq_true rfl) dX9_pour_39 (p_X7_isMissing hL s21) ?_
            refine go_ifb_ne 56 dX9_pour_42 (by decide) (fun c23 => ?_) (fun c23 => ?_)
            · have h := h.1 c23
              refine go_aload_n 0 dX9_pour_56 rfl rfl ?_
              refine go_iconst dX9_pour_57 ?_
              refine go_vIp (M := MX9_refuse) [vI 2] [] mv_X9_111 (hL.1 0 _ rfl) rfl (by decide) ⟨Nat.le_of_ble_eq_true rfl, Nat.le_of_ble_eq_true rfl⟩ ⟨Nat.le_refl _, Nat.le_refl _⟩ rfl rfl (Nat.le_of_ble_eq_true rfl) dX9_pour_58 (p_X9_refuse hL (by decide)) ?_
              exact go_zreturn (Nat.le_refl _) (Nat.le_refl _) rfl (by decide) dX9_pour_61 h
            · have h := h.2 c23
              obtain ⟨s26, h⟩ := h
              refine go_aload_n 0 dX9_pour_45 rfl rfl ?_
              refine go_getR 3 f_X9_27 rfl (hL.1 0 _ rfl) (hL.2.1 0 3 _ rfl (by decide)) dX9_pour_46 ?_
              refine go_iload_n 3 dX9_pour_49 rfl rfl ?_
              refine go_vIp (M := MX7_isMissing) [vI v3] [] mv_X9_138 (hL.1 15 _ rfl) rfl (by decide) ⟨Nat.le_of_ble_eq_true rfl, Nat.le_of_ble_eq_true rfl⟩ ⟨Nat.le_refl _, Nat.le_refl _⟩ rfl rfl (Nat.le_of_ble_eq_true rfl) dX9_pour_50 (p_X7_isMissing hL s26) ?_
              refine go_ifb_eq 62 dX9_pour_53 (by decide) (fun c28 => ?_) (fun c28 => ?_)
              · have h := h.1 c28
                refine go_aload_n 0 dX9_pour_62 rfl rfl ?_
                refine go_getR 3 f_X9_27 rfl (hL.1 0 _ rfl) (hL.2.1 0 3 _ rfl (by decide)) dX9_pour_63 ?_
                refine go_getR 1 f_X9_141 rfl (hL.1 15 _ rfl) (hL.2.1 15 1 _ rfl (by decide)) dX9_pour_66 ?_
                refine go_iload_n 1 dX9_pour_69 rfl rfl ?_
                refine go_iaload (hL.1 21 _ rfl) (b := 4) rfl (by decide) s21 dX9_pour_70 ?_
                refine go_aload_n 0 dX9_pour_71 rfl rfl ?_
                refine go_getR 3 f_X9_27 rfl (hL.1 0 _ rfl) (hL.2.1 0 3 _ rfl (by decide)) dX9_pour_72 ?_
                refine go_getR 1 f_X9_141 rfl (hL.1 15 _ rfl) (hL.2.1 15 1 _ rfl (by decide)) dX9_pour_75 ?_
                refine go_iload_n 3 dX9_pour_78 rfl rfl ?_
                refine go_iaload (hL.1 21 _ rfl) (b := 4) rfl (by decide) s26 dX9_pour_79 ?_
                refine go_rngI (c := 21) (i := v1) (hL.1 21 _ rfl) rfl (fun (q30 : -2147483648 ≤ (D 21 v1) ∧ (D 21 v1) < 2147483648) => ?_)
                refine go_rngI (c := 21) (i := v3) (hL.1 21 _ rfl) rfl (fun (q31 : -2147483648 ≤ (D 21 v3) ∧ (D 21 v3) < 2147483648) => ?_)
                refine go_icmp_eq 90 dX9_pour_80 (by decide) q30 q31 (fun c32 => ?_) (fun c32 => ?_)
                · have h := h.1 c32
                  obtain ⟨s33, h⟩ := h
                  refine go_aload_n 0 dX9_pour_90 rfl rfl ?_
                  refine go_getR 3 f_X9_27 rfl (hL.1 0 _ rfl) (hL.2.1 0 3 _ rfl (by decide)) dX9_pour_91 ?_
                  refine go_iload_n 1 dX9_pour_94 rfl rfl ?_
                  refine go_iload_n 2 dX9_pour_95 rfl rfl ?_
                  refine go_iload 5 dX9_pour_96 rfl ?_
                  refine go_vIp (M := MX7_reaches) [vI v1, vI v2, vI v5] [] mv_X9_145 (hL.1 15 _ rfl) rfl (by decide) ⟨Nat.le_of_ble_eq_true rfl, Nat.le_of_ble_eq_true rfl⟩ ⟨Nat.le_refl _, Nat.le_refl _⟩ rfl rfl (Nat.le_of_ble_eq_true rfl) dX9_pour_98 (p_X7_reaches hL s11 s19 s21 s33) ?_
                  refine go_ifb_eq 119 dX9_pour_101 (by decide) (fun c35 => ?_) (fun c35 => ?_)
                  · have h := h.1 c35
                    refine go_aload_n 0 dX9_pour_119 rfl rfl ?_
                    refine go_iconst dX9_pour_120 ?_
                    refine go_vIp (M := MX9_refuse) [vI 3] [] mv_X9_111 (hL.1 0 _ rfl) rfl (by decide) ⟨Nat.le_of_ble_eq_true rfl, Nat.le_of_ble_eq_true rfl⟩ ⟨Nat.le_refl _, Nat.le_refl _⟩ rfl rfl (Nat.le_of_ble_eq_true rfl) dX9_pour_121 (p_X9_refuse hL (by decide)) ?_
                    exact go_zreturn (Nat.le_refl _) (Nat.le_refl _) rfl (by decide) dX9_pour_124 h
                  · have h := h.2 c35
                    obtain ⟨s38, h⟩ := h
                    refine go_aload_n 0 dX9_pour_104 rfl rfl ?_
                    refine go_getR 3 f_X9_27 rfl (hL.1 0 _ rfl) (hL.2.1 0 3 _ rfl (by decide)) dX9_pour_105 ?_
                    refine go_iload_n 3 dX9_pour_108 rfl rfl ?_
                    refine go_iload 4 dX9_pour_109 rfl ?_
                    refine go_iload 5 dX9_pour_111 rfl ?_
                    refine go_vIp (M := MX7_reaches) [vI v3, vI v4, vI v5] [] mv_X9_145 (hL.1 15 _ rfl) rfl (by decide) ⟨Nat.le_of_ble_eq_true rfl, Nat.le_of_ble_eq_true rfl⟩ ⟨Nat.le_refl _, Nat.le_refl _⟩ rfl rfl (Nat.le_of_ble_eq_true rfl) dX9_pour_113 (p_X7_reaches hL s15 s19 s26 s38) ?_
                    refine go_ifb_ne 125 dX9_pour_116 (by decide) (fun c40 => ?_) (fun c40 => ?_)
                    · have h := h.1 c40
                      refine go_aload_n 0 dX9_pour_125 rfl rfl ?_
                      refine go_getR 3 f_X9_27 rfl (hL.1 0 _ rfl) (hL.2.1 0 3 _ rfl (by decide)) dX9_pour_126 ?_
                      refine go_iload_n 1 dX9_pour_129 rfl rfl ?_
                      refine go_iload_n 2 dX9_pour_130 rfl rfl ?_
                      refine go_iload_n 3 dX9_pour_131 rfl rfl ?_
                      refine go_iload 4 dX9_pour_132 rfl ?_
                      refine go_iload 5 dX9_pour_134 rfl ?_
                      refine go_vV (M := MX7_move) [vI v1, vI v2, vI v3, vI v4, vI v5] [] mv_X9_148 (hL.1 15 _ rfl) rfl (by decide) ⟨Nat.le_of_ble_eq_true rfl, Nat.le_of_ble_eq_true rfl⟩ ⟨Nat.le_refl _, Nat.le_refl _⟩ rfl rfl (Nat.le_of_ble_eq_true rfl) dX9_pour_136 h (fun r42 D42 h => ?_)
                      refine go_aload_n 0 dX9_pour_139 rfl rfl ?_
                      refine go_vIp (M := MX9_agree) [] [] mv_X9_118 (hL.1 0 _ rfl) rfl (by decide) ⟨Nat.le_of_ble_eq_true rfl, Nat.le_of_ble_eq_true rfl⟩ ⟨Nat.le_refl _, Nat.le_refl _⟩ rfl rfl (Nat.le_of_ble_eq_true rfl) dX9_pour_140 (p_X9_agree hL) ?_
                      exact go_zreturn (Nat.le_refl _) (Nat.le_refl _) rfl (by decide) dX9_pour_143 h
                    · have h := h.2 c40
                      refine go_aload_n 0 dX9_pour_119 rfl rfl ?_
                      refine go_iconst dX9_pour_120 ?_
                      refine go_vIp (M := MX9_refuse) [vI 3] [] mv_X9_111 (hL.1 0 _ rfl) rfl (by decide) ⟨Nat.le_of_ble_eq_true rfl, Nat.le_of_ble_eq_true rfl⟩ ⟨Nat.le_refl _, Nat.le_refl _⟩ rfl rfl (Nat.le_of_ble_eq_true rfl) dX9_pour_121 (p_X9_refuse hL (by decide)) ?_
                      exact go_zreturn (Nat.le_refl _) (Nat.le_refl _) rfl (by decide) dX9_pour_124 h
                · have h := h.2 c32
                  refine go_aload_n 0 dX9_pour_83 rfl rfl ?_
                  refine go_bipush dX9_pour_84 (by decide) ?_
                  refine go_vIp (M := MX9_refuse) [vI 8] [] mv_X9_111 (hL.1 0 _ rfl) rfl (by decide) ⟨Nat.le_of_ble_eq_true rfl, Nat.le_of_ble_eq_true rfl⟩ ⟨Nat.le_refl _, Nat.le_refl _⟩ rfl rfl (Nat.le_of_ble_eq_true rfl) dX9_pour_86 (p_X9_refuse hL (by decide)) ?_
                  exact go_zreturn (Nat.le_refl _) (Nat.le_refl _) rfl (by decide) dX9_pour_89 h
              · have h := h.2 c28
                refine go_aload_n 0 dX9_pour_56 rfl rfl ?_
                refine go_iconst dX9_pour_57 ?_
                refine go_vIp (M := MX9_refuse) [vI 2] [] mv_X9_111 (hL.1 0 _ rfl) rfl (by decide) ⟨Nat.le_of_ble_eq_true rfl, Nat.le_of_ble_eq_true rfl⟩ ⟨Nat.le_refl _, Nat.le_refl _⟩ rfl rfl (Nat.le_of_ble_eq_true rfl) dX9_pour_58 (p_X9_refuse hL (by decide)) ?_
                exact go_zreturn (Nat.le_refl _) (Nat.le_refl _) rfl (by decide) dX9_pour_61 h
          · have h := h.2 c20
            refine go_aload_n 0 dX9_pour_28 rfl rfl ?_
            refine go_iconst dX9_pour_29 ?_
            refine go_vIp (M := MX9_refuse) [vI 1] [] mv_X9_111 (hL.1 0 _ rfl) rfl (by decide) ⟨Nat.le_of_ble_eq_true rfl, Nat.le_of_ble_eq_true rfl⟩ ⟨Nat.le_refl _, Nat.le_refl _⟩ rfl rfl (Nat.le_of_ble_eq_true rfl) dX9_pour_30 (p_X9_refuse hL (by decide)) ?_
            exact go_zreturn (Nat.le_refl _) (Nat.le_refl _) rfl (by decide) dX9_pour_33 h
theorem s_X9_feed {l : Launch} {E : Ev} {Q : Int → Sh → Dm → Prop} {G : Sh} {D : Dm} (hL : Lay G) {v1 v2 v3 v4 v5 : Int}  (h : ((-2147483648 ≤ ((D 23 1) + 20) ∧ ((D 23 1) + 20) < 2147483648)) ∧ ((((D 23 1) + 20) ≤ 600 → C0 l E MX6_append 2 [vR E 23, vI v1] G D (fun r4 D4 => C0 l E MX6_append 2 [vR E 23, vI v2] G D4 (fun r6 D6 => C0 l E MX6_append 2 [vR E 23, vI v3] G D6 (fun r8 D8 => C0 l E MX6_append 2 [vR E 23, vI v4] G D8 (fun r10 D10 => C0 l E MX6_append 2 [vR E 23, vI v5] G D10 (fun r12 D12 => Q (D12 23 1) G D12)))))) ∧ (600 < ((D 23 1) + 20) → Q (-1) G D))) : Ct l E MX9_feed 0 0 0 [vR E 0, vI v1, vI v2, vI v3, vI v4, vI v5] G D Q := by
  refine Ct.of (by decide) (Nat.le_of_ble_eq_true rfl) ?_
  show KX9_feed l E Q 0 [(0, vR E 0), (1, vI v1), (2, vI v2), (3, vI v3), (4, vI v4), (5, vI v5)] G D
  obtain ⟨s1, h⟩ := h
  refine go_aload_n 0 dX9_feed_0 rfl rfl ?_
  refine go_getR 4 f_X9_34 rfl (hL.1 0 _ rfl) (hL.2.1 0 4 _ rfl (by decide)) dX9_feed_1 ?_
  refine go_getI 1 (i := 1) f_X9_152 rfl (hL.1 23 _ rfl) dX9_feed_4 ?_
  refine go_bipush dX9_feed_7 (by decide) ?_
  refine go_iadd dX9_feed_9 ?_
  refine go_sipush dX9_feed_10 (by decide) ?_
  refine go_icmp_le 18 dX9_feed_13 (by decide) s1 (by decide) (fun c2 => ?_) (fun c2 => ?_)
  · have h := h.1 c2
    refine go_aload_n 0 dX9_feed_18 rfl rfl ?_
    refine go_getR 4 f_X9_34 rfl (hL.1 0 _ rfl) (hL.2.1 0 4 _ rfl (by decide)) dX9_feed_19 ?_
    refine go_iload_n 1 dX9_feed_22 rfl rfl ?_
    refine go_vV (M := MX6_append) [vI v1] [] mv_X9_155 (hL.1 23 _ rfl) rfl (by decide) ⟨Nat.le_of_ble_eq_true rfl, Nat.le_of_ble_eq_true rfl⟩ ⟨Nat.le_refl _, Nat.le_refl _⟩ rfl rfl (Nat.le_of_ble_eq_true rfl) dX9_feed_23 h (fun r4 D4 h => ?_)
    refine go_aload_n 0 dX9_feed_26 rfl rfl ?_
    refine go_getR 4 f_X9_34 rfl (hL.1 0 _ rfl) (hL.2.1 0 4 _ rfl (by decide)) dX9_feed_27 ?_
    refine go_iload_n 2 dX9_feed_30 rfl rfl ?_
    refine go_vV (M := MX6_append) [vI v2] [] mv_X9_155 (hL.1 23 _ rfl) rfl (by decide) ⟨Nat.le_of_ble_eq_true rfl, Nat.le_of_ble_eq_true rfl⟩ ⟨Nat.le_refl _, Nat.le_refl _⟩ rfl rfl (Nat.le_of_ble_eq_true rfl) dX9_feed_31 h (fun r6 D6 h => ?_)
    refine go_aload_n 0 dX9_feed_34 rfl rfl ?_
    refine go_getR 4 f_X9_34 rfl (hL.1 0 _ rfl) (hL.2.1 0 4 _ rfl (by decide)) dX9_feed_35 ?_
    refine go_iload_n 3 dX9_feed_38 rfl rfl ?_
    refine go_vV (M := MX6_append) [vI v3] [] mv_X9_155 (hL.1 23 _ rfl) rfl (by decide) ⟨Nat.le_of_ble_eq_true rfl, Nat.le_of_ble_eq_true rfl⟩ ⟨Nat.le_refl _, Nat.le_refl _⟩ rfl rfl (Nat.le_of_ble_eq_true rfl) dX9_feed_39 h (fun r8 D8 h => ?_)
    refine go_aload_n 0 dX9_feed_42 rfl rfl ?_
    refine go_getR 4 f_X9_34 rfl (hL.1 0 _ rfl) (hL.2.1 0 4 _ rfl (by decide)) dX9_feed_43 ?_
    refine go_iload 4 dX9_feed_46 rfl ?_
    refine go_vV (M := MX6_append) [vI v4] [] mv_X9_155 (hL.1 23 _ rfl) rfl (by decide) ⟨Nat.le_of_ble_eq_true rfl, Nat.le_of_ble_eq_true rfl⟩ ⟨Nat.le_refl _, Nat.le_refl _⟩ rfl rfl (Nat.le_of_ble_eq_true rfl) dX9_feed_48 h (fun r10 D10 h => ?_)
    refine go_aload_n 0 dX9_feed_51 rfl rfl ?_
    refine go_getR 4 f_X9_34 rfl (hL.1 0 _ rfl) (hL.2.1 0 4 _ rfl (by decide)) dX9_feed_52 ?_
    refine go_iload 5 dX9_feed_55 rfl ?_
    refine go_vV (M := MX6_append) [vI v5] [] mv_X9_155 (hL.1 23 _ rfl) rfl (by decide) ⟨Nat.le_of_ble_eq_true rfl, Nat.le_of_ble_eq_true rfl⟩ ⟨Nat.le_refl _, Nat.le_refl _⟩ rfl rfl (Nat.le_of_ble_eq_true rfl) dX9_feed_57 h (fun r12 D12 h => ?_)
    refine go_aload_n 0 dX9_feed_60 rfl rfl ?_
    refine go_getR 4 f_X9_34 rfl (hL.1 0 _ rfl) (hL.2.1 0 4 _ rfl (by decide)) dX9_feed_61 ?_
    refine go_getI 1 (i := 1) f_X9_152 rfl (hL.1 23 _ rfl) dX9_feed_64 ?_
    exact go_ireturn (Nat.le_refl _) (Nat.le_refl _) rfl dX9_feed_67 h
  · have h := h.2 c2
    refine go_iconst dX9_feed_16 ?_
    exact go_ireturn (Nat.le_refl _) (Nat.le_refl _) rfl dX9_feed_17 h
theorem s_X9_answer {l : Launch} {E : Ev} {Q : Int → Sh → Dm → Prop} {G : Sh} {D : Dm} (hL : Lay G) {v1 : Int}  (h : Q v1 G (upd2 D 0 11 0)) : Ct l E MX9_answer 0 0 0 [vR E 0, vI v1] G D Q := by
  refine Ct.of (by decide) (Nat.le_of_ble_eq_true rfl) ?_
  show KX9_answer l E Q 0 [(0, vR E 0), (1, vI v1)] G D
  refine go_aload_n 0 dX9_answer_0 rfl rfl ?_
  refine go_iconst dX9_answer_1 ?_
  refine go_putI 11 (i := 11) (by decide) f_X9_84 rfl (hL.1 0 _ rfl) dX9_answer_2 ?_
  refine go_iload_n 1 dX9_answer_5 rfl rfl ?_
  exact go_ireturn (Nat.le_refl _) (Nat.le_refl _) rfl dX9_answer_6 h
theorem p_X9_answer {l : Launch} {E : Ev} {G : Sh} {D : Dm} (hL : Lay G) {v1 : Int}   : C0 l E MX9_answer 0 [vR E 0, vI v1] G D (fun r D' => r = v1 ∧ D' = (upd2 D 0 11 0)) := s_X9_answer hL ⟨rfl, rfl, rfl⟩
theorem s_X9_village {l : Launch} {E : Ev} {Q : Int → Sh → Dm → Prop} {G : Sh} {D : Dm} (hL : Lay G) {v1 : Int}  (h : ((-2147483648 ≤ v1 ∧ v1 < 2147483648)) ∧ ((v1 < 0 → Q (-1) G (upd2 D 0 11 1)) ∧ (0 ≤ v1 → ((v1 ≤ (D 23 1) → C0 l E MX6_parse 0 [vR E 23, vI v1] G D (fun r9 D9 => ((-2147483648 ≤ r9 ∧ r9 < 2147483648)) ∧ ((r9 ≠ 0 → C0 l E MX8_takePlaces 2 [vR E 1, vR E 25] G (upd2 (upd2 (upd2 D9 23 1 0) 0 14 (D9 23 3)) 0 15 (D9 23 4)) (fun r15 D15 => Q (D15 1 0) G (upd2 (upd2 D15 42 5 0) 0 11 0))) ∧ (r9 = 0 → Q (-1) G (upd2 (upd2 (upd2 (upd2 D9 23 1 0) 0 14 (D9 23 3)) 0 15 (D9 23 4)) 0 11 9))))) ∧ ((D 23 1) < v1 → Q (-1) G (upd2 D 0 11 1)))))) : Ct l E MX9_village 0 0 0 [vR E 0, vI v1] G D Q := by
  refine Ct.of (by decide) (Nat.le_of_ble_eq_true rfl) ?_
  show KX9_village l E Q 0 [(0, vR E 0), (1, vI v1)] G D
  obtain ⟨s1, h⟩ := h
  refine go_iload_n 1 dX9_village_0 rfl rfl ?_
  refine go_if_lt 15 dX9_village_1 (by decide) s1 (fun c2 => ?_) (fun c2 => ?_)
  · have h := h.1 c2
    refine go_aload_n 0 dX9_village_15 rfl rfl ?_
    refine go_iconst dX9_village_16 ?_
    refine go_vIp (M := MX9_none) [vI 1] [] mv_X9_130 (hL.1 0 _ rfl) rfl (by decide) ⟨Nat.le_of_ble_eq_true rfl, Nat.le_of_ble_eq_true rfl⟩ ⟨Nat.le_refl _, Nat.le_refl _⟩ rfl rfl (Nat.le_of_ble_eq_true rfl) dX9_village_17 (p_X9_none hL (by decide)) ?_
    exact go_ireturn (Nat.le_refl _) (Nat.le_refl _) rfl dX9_village_20 h
  · have h := h.2 c2
    refine go_iload_n 1 dX9_village_4 rfl rfl ?_
    refine go_aload_n 0 dX9_village_5 rfl rfl ?_
    refine go_getR 4 f_X9_34 rfl (hL.1 0 _ rfl) (hL.2.1 0 4 _ rfl (by decide)) dX9_village_6 ?_
    refine go_getI 1 (i := 1) f_X9_152 rfl (hL.1 23 _ rfl) dX9_village_9 ?_
    refine go_rngI (c := 23) (i := 1) (hL.1 23 _ rfl) rfl (fun (q6 : -2147483648 ≤ (D 23 1) ∧ (D 23 1) < 2147483648) => ?_)
    refine go_icmp_le 21 dX9_village_12 (by decide) s1 q6 (fun c7 => ?_) (fun c7 => ?_)
    · have h := h.1 c7
      refine go_aload_n 0 dX9_village_21 rfl rfl ?_
      refine go_getR 4 f_X9_34 rfl (hL.1 0 _ rfl) (hL.2.1 0 4 _ rfl (by decide)) dX9_village_22 ?_
      refine go_iload_n 1 dX9_village_25 rfl rfl ?_
      refine go_vI (M := MX6_parse) [vI v1] [] mv_X9_159 (hL.1 23 _ rfl) rfl (by decide) ⟨Nat.le_of_ble_eq_true rfl, Nat.le_of_ble_eq_true rfl⟩ ⟨Nat.le_refl _, Nat.le_refl _⟩ rfl rfl (Nat.le_of_ble_eq_true rfl) dX9_village_26 h (fun r9 D9 h => ?_)
      obtain ⟨s10, h⟩ := h
      refine go_istore_n [1, 2, 0] (L' := [(0, vR E 0), (1, vI v1), (2, vI r9)]) dX9_village_29 rfl (by decide) rfl ?_
      refine go_aload_n 0 dX9_village_30 rfl rfl ?_
      refine go_getR 4 f_X9_34 rfl (hL.1 0 _ rfl) (hL.2.1 0 4 _ rfl (by decide)) dX9_village_31 ?_
      refine go_iconst dX9_village_34 ?_
      refine go_putI 1 (i := 1) (by decide) f_X9_152 rfl (hL.1 23 _ rfl) dX9_village_35 ?_
      refine go_aload_n 0 dX9_village_38 rfl rfl ?_
      refine go_aload_n 0 dX9_village_39 rfl rfl ?_
      refine go_getR 4 f_X9_34 rfl (hL.1 0 _ rfl) (hL.2.1 0 4 _ rfl (by decide)) dX9_village_40 ?_
      refine go_getI 3 (i := 3) f_X9_162 rfl (hL.1 23 _ rfl) dX9_village_43 ?_
      refine go_rngI (c := 23) (i := 3) (hL.1 23 _ rfl) rfl (fun (q11 : -2147483648 ≤ (D9 23 3) ∧ (D9 23 3) < 2147483648) => ?_)
      refine go_putI 14 (i := 14) q11 f_X9_94 rfl (hL.1 0 _ rfl) dX9_village_46 ?_
      refine go_aload_n 0 dX9_village_49 rfl rfl ?_
      refine go_aload_n 0 dX9_village_50 rfl rfl ?_
      refine go_getR 4 f_X9_34 rfl (hL.1 0 _ rfl) (hL.2.1 0 4 _ rfl (by decide)) dX9_village_51 ?_
      refine go_getI 4 (i := 4) f_X9_165 rfl (hL.1 23 _ rfl) dX9_village_54 ?_
      refine go_rngI (c := 23) (i := 4) (hL.1 23 _ rfl) rfl (fun (q12 : -2147483648 ≤ (D9 23 4) ∧ (D9 23 4) < 2147483648) => ?_)
      refine go_putI 15 (i := 15) q12 f_X9_97 rfl (hL.1 0 _ rfl) dX9_village_57 ?_
      refine go_iload_n 2 dX9_village_60 rfl rfl ?_
      refine go_if_ne 71 dX9_village_61 (by decide) s10 (fun c13 => ?_) (fun c13 => ?_)
      · have h := h.1 c13
        refine go_aload_n 0 dX9_village_71 rfl rfl ?_
        refine go_getR 0 f_X9_10 rfl (hL.1 0 _ rfl) (hL.2.1 0 0 _ rfl (by decide)) dX9_village_72 ?_
        refine go_aload_n 0 dX9_village_75 rfl rfl ?_
        refine go_getR 4 f_X9_34 rfl (hL.1 0 _ rfl) (hL.2.1 0 4 _ rfl (by decide)) dX9_village_76 ?_
        refine go_getR 2 f_X9_168 rfl (hL.1 23 _ rfl) (hL.2.1 23 2 _ rfl (by decide)) dX9_village_79 ?_
        refine go_vV (M := MX8_takePlaces) [vR E 25] [] mv_X9_171 (hL.1 1 _ rfl) rfl (by decide) ⟨Nat.le_of_ble_eq_true rfl, Nat.le_of_ble_eq_true rfl⟩ ⟨Nat.le_refl _, Nat.le_refl _⟩ rfl rfl (Nat.le_of_ble_eq_true rfl) dX9_village_82 h (fun r15 D15 h => ?_)
        refine go_aload_n 0 dX9_village_85 rfl rfl ?_
        refine go_getR 5 f_X9_43 rfl (hL.1 0 _ rfl) (hL.2.1 0 5 _ rfl (by decide)) dX9_village_86 ?_
        refine go_vVp (M := MX5_forget) [] [] mv_X9_174 (hL.1 42 _ rfl) rfl (by decide) ⟨Nat.le_of_ble_eq_true rfl, Nat.le_of_ble_eq_true rfl⟩ ⟨Nat.le_refl _, Nat.le_refl _⟩ rfl rfl (Nat.le_of_ble_eq_true rfl) dX9_village_89 (p_X5_forget hL) ?_
        refine go_aload_n 0 dX9_village_92 rfl rfl ?_
        refine go_aload_n 0 dX9_village_93 rfl rfl ?_
        refine go_getR 0 f_X9_10 rfl (hL.1 0 _ rfl) (hL.2.1 0 0 _ rfl (by decide)) dX9_village_94 ?_
        refine go_getI 0 (i := 0) f_X9_177 rfl (hL.1 1 _ rfl) dX9_village_97 ?_
        refine go_vIp (M := MX9_answer) [vI (D15 1 0)] [] mv_X9_180 (hL.1 0 _ rfl) rfl (by decide) ⟨Nat.le_of_ble_eq_true rfl, Nat.le_of_ble_eq_true rfl⟩ ⟨Nat.le_refl _, Nat.le_refl _⟩ rfl rfl (Nat.le_of_ble_eq_true rfl) dX9_village_100 (p_X9_answer hL) ?_
        exact go_ireturn (Nat.le_refl _) (Nat.le_refl _) rfl dX9_village_103 h
      · have h := h.2 c13
        refine go_aload_n 0 dX9_village_64 rfl rfl ?_
        refine go_bipush dX9_village_65 (by decide) ?_
        refine go_vIp (M := MX9_none) [vI 9] [] mv_X9_130 (hL.1 0 _ rfl) rfl (by decide) ⟨Nat.le_of_ble_eq_true rfl, Nat.le_of_ble_eq_true rfl⟩ ⟨Nat.le_refl _, Nat.le_refl _⟩ rfl rfl (Nat.le_of_ble_eq_true rfl) dX9_village_67 (p_X9_none hL (by decide)) ?_
        exact go_ireturn (Nat.le_refl _) (Nat.le_refl _) rfl dX9_village_70 h
    · have h := h.2 c7
      refine go_aload_n 0 dX9_village_15 rfl rfl ?_
      refine go_iconst dX9_village_16 ?_
      refine go_vIp (M := MX9_none) [vI 1] [] mv_X9_130 (hL.1 0 _ rfl) rfl (by decide) ⟨Nat.le_of_ble_eq_true rfl, Nat.le_of_ble_eq_true rfl⟩ ⟨Nat.le_refl _, Nat.le_refl _⟩ rfl rfl (Nat.le_of_ble_eq_true rfl) dX9_village_17 (p_X9_none hL (by decide)) ?_
      exact go_ireturn (Nat.le_refl _) (Nat.le_refl _) rfl dX9_village_20 h
theorem s_X9_fault {l : Launch} {E : Ev} {Q : Int → Sh → Dm → Prop} {G : Sh} {D : Dm} (hL : Lay G) {v1 : Int}  (h : ((-2147483648 ≤ v1 ∧ v1 < 2147483648)) ∧ ((v1 ≠ 0 → ((v1 ≠ 1 → Q (-1) G D) ∧ (v1 = 1 → Q (D 0 15) G D))) ∧ (v1 = 0 → Q (D 0 14) G D))) : Ct l E MX9_fault 0 0 0 [vR E 0, vI v1] G D Q := by
  refine Ct.of (by decide) (Nat.le_of_ble_eq_true rfl) ?_
  show KX9_fault l E Q 0 [(0, vR E 0), (1, vI v1)] G D
  obtain ⟨s1, h⟩ := h
  refine go_iload_n 1 dX9_fault_0 rfl rfl ?_
  refine go_if_ne 9 dX9_fault_1 (by decide) s1 (fun c2 => ?_) (fun c2 => ?_)
  · have h := h.1 c2
    refine go_iload_n 1 dX9_fault_9 rfl rfl ?_
    refine go_iconst dX9_fault_10 ?_
    refine go_icmp_ne 21 dX9_fault_11 (by decide) s1 (by decide) (fun c4 => ?_) (fun c4 => ?_)
    · have h := h.1 c4
      refine go_iconst dX9_fault_21 ?_
      exact go_ireturn (Nat.le_refl _) (Nat.le_refl _) rfl dX9_fault_22 h
    · have h := h.2 c4
      refine go_aload_n 0 dX9_fault_14 rfl rfl ?_
      refine go_getI 15 (i := 15) f_X9_97 rfl (hL.1 0 _ rfl) dX9_fault_15 ?_
      refine go_goto 22 dX9_fault_18 (by decide) ?_
      exact go_ireturn (Nat.le_refl _) (Nat.le_refl _) rfl dX9_fault_22 h
  · have h := h.2 c2
    refine go_aload_n 0 dX9_fault_4 rfl rfl ?_
    refine go_getI 14 (i := 14) f_X9_94 rfl (hL.1 0 _ rfl) dX9_fault_5 ?_
    exact go_ireturn (Nat.le_refl _) (Nat.le_refl _) rfl dX9_fault_8 h
theorem s_X9_many {l : Launch} {E : Ev} {Q : Int → Sh → Dm → Prop} {G : Sh} {D : Dm} (hL : Lay G) {v1 : Int}  (h : ((-2147483648 ≤ v1 ∧ v1 < 2147483648)) ∧ (v1 = 0 → Q (D 1 0) G (upd2 D 0 11 0)) ∧ (v1 = 1 → Q (D 1 1) G (upd2 D 0 11 0)) ∧ (v1 = 2 → Q (D 1 2) G (upd2 D 0 11 0)) ∧ ((v1 < 0 ∨ 2 < v1) → Q (-1) G (upd2 D 0 11 1))) : Ct l E MX9_many 0 0 0 [vR E 0, vI v1] G D Q := by
  refine Ct.of (by decide) (Nat.le_of_ble_eq_true rfl) ?_
  show KX9_many l E Q 0 [(0, vR E 0), (1, vI v1)] G D
  obtain ⟨s1, h⟩ := h
  refine go_iload_n 1 dX9_many_0 rfl rfl ?_
  obtain ⟨hk0, hk1, hk2, hdf⟩ := h
  rcases (show v1 = 0 ∨ v1 = 1 ∨ v1 = 2 ∨ (v1 < 0 ∨ 2 < v1) by omega) with hx10 | hx10 | hx10 | hx10
  · refine go_tableIn v1 28 dX9_many_1 s1 (by omega) (by rw [hx10]; rfl) (by decide) ?_
    have h := hk0 hx10
    refine go_aload_n 0 dX9_many_28 rfl rfl ?_
    refine go_aload_n 0 dX9_many_29 rfl rfl ?_
    refine go_getR 0 f_X9_10 rfl (hL.1 0 _ rfl) (hL.2.1 0 0 _ rfl (by decide)) dX9_many_30 ?_
    refine go_getI 0 (i := 0) f_X9_177 rfl (hL.1 1 _ rfl) dX9_many_33 ?_
    refine go_vIp (M := MX9_answer) [vI (D 1 0)] [] mv_X9_180 (hL.1 0 _ rfl) rfl (by decide) ⟨Nat.le_of_ble_eq_true rfl, Nat.le_of_ble_eq_true rfl⟩ ⟨Nat.le_refl _, Nat.le_refl _⟩ rfl rfl (Nat.le_of_ble_eq_true rfl) dX9_many_36 (p_X9_answer hL) ?_
    exact go_ireturn (Nat.le_refl _) (Nat.le_refl _) rfl dX9_many_39 h
  · refine go_tableIn v1 40 dX9_many_1 s1 (by omega) (by rw [hx10]; rfl) (by decide) ?_
    have h := hk1 hx10
    refine go_aload_n 0 dX9_many_40 rfl rfl ?_
    refine go_aload_n 0 dX9_many_41 rfl rfl ?_
    refine go_getR 0 f_X9_10 rfl (hL.1 0 _ rfl) (hL.2.1 0 0 _ rfl (by decide)) dX9_many_42 ?_
    refine go_getI 1 (i := 1) f_X9_183 rfl (hL.1 1 _ rfl) dX9_many_45 ?_
    refine go_vIp (M := MX9_answer) [vI (D 1 1)] [] mv_X9_180 (hL.1 0 _ rfl) rfl (by decide) ⟨Nat.le_of_ble_eq_true rfl, Nat.le_of_ble_eq_true rfl⟩ ⟨Nat.le_refl _, Nat.le_refl _⟩ rfl rfl (Nat.le_of_ble_eq_true rfl) dX9_many_48 (p_X9_answer hL) ?_
    exact go_ireturn (Nat.le_refl _) (Nat.le_refl _) rfl dX9_many_51 h
  · refine go_tableIn v1 52 dX9_many_1 s1 (by omega) (by rw [hx10]; rfl) (by decide) ?_
    have h := hk2 hx10
    refine go_aload_n 0 dX9_many_52 rfl rfl ?_
    refine go_aload_n 0 dX9_many_53 rfl rfl ?_
    refine go_getR 0 f_X9_10 rfl (hL.1 0 _ rfl) (hL.2.1 0 0 _ rfl (by decide)) dX9_many_54 ?_
    refine go_getI 2 (i := 2) f_X9_186 rfl (hL.1 1 _ rfl) dX9_many_57 ?_
    refine go_vIp (M := MX9_answer) [vI (D 1 2)] [] mv_X9_180 (hL.1 0 _ rfl) rfl (by decide) ⟨Nat.le_of_ble_eq_true rfl, Nat.le_of_ble_eq_true rfl⟩ ⟨Nat.le_refl _, Nat.le_refl _⟩ rfl rfl (Nat.le_of_ble_eq_true rfl) dX9_many_60 (p_X9_answer hL) ?_
    exact go_ireturn (Nat.le_refl _) (Nat.le_refl _) rfl dX9_many_63 h
  · refine go_tableOut 64 dX9_many_1 s1 hx10 (by decide) ?_
    have h := hdf hx10
    refine go_aload_n 0 dX9_many_64 rfl rfl ?_
    refine go_iconst dX9_many_65 ?_
    refine go_vIp (M := MX9_none) [vI 1] [] mv_X9_130 (hL.1 0 _ rfl) rfl (by decide) ⟨Nat.le_of_ble_eq_true rfl, Nat.le_of_ble_eq_true rfl⟩ ⟨Nat.le_refl _, Nat.le_refl _⟩ rfl rfl (Nat.le_of_ble_eq_true rfl) dX9_many_66 (p_X9_none hL (by decide)) ?_
    exact go_ireturn (Nat.le_refl _) (Nat.le_refl _) rfl dX9_many_69 h
theorem s_X9_strip {l : Launch} {E : Ev} {Q : Int → Sh → Dm → Prop} {G : Sh} {D : Dm} (hL : Lay G) {v1 v2 : Int}  (h : ((-2147483648 ≤ v1 ∧ v1 < 2147483648)) ∧ ((((0 ≤ v1) ∧ (v1 < (D 1 0))) → ((-2147483648 ≤ v2 ∧ v2 < 2147483648)) ∧ (v2 = 0 → ((0 ≤ v1 ∧ v1 < 10)) ∧ Q (D 2 v1) G (upd2 D 0 11 0)) ∧ (v2 = 1 → ((0 ≤ v1 ∧ v1 < 10)) ∧ Q (D 3 v1) G (upd2 D 0 11 0)) ∧ (v2 = 2 → ((0 ≤ v1 ∧ v1 < 10)) ∧ Q (D 4 v1) G (upd2 D 0 11 0)) ∧ (v2 = 3 → ((0 ≤ v1 ∧ v1 < 10)) ∧ Q (D 5 v1) G (upd2 D 0 11 0)) ∧ (v2 = 4 → ((0 ≤ v1 ∧ v1 < 10)) ∧ (((D 6 v1) ≠ (-1) → Q (D 6 v1) G (upd2 D 0 11 0)) ∧ ((D 6 v1) = (-1) → Q (-1) G (upd2 D 0 11 6)))) ∧ ((v2 < 0 ∨ 4 < v2) → Q (-1) G (upd2 D 0 11 1))) ∧ (¬ ((0 ≤ v1) ∧ (v1 < (D 1 0))) → Q (-1) G (upd2 D 0 11 1)))) : Ct l E MX9_strip 0 0 0 [vR E 0, vI v1, vI v2] G D Q := by
  refine Ct.of (by decide) (Nat.le_of_ble_eq_true rfl) ?_
  show KX9_strip l E Q 0 [(0, vR E 0), (1, vI v1), (2, vI v2)] G D
  obtain ⟨s1, h⟩ := h
  refine go_aload_n 0 dX9_strip_0 rfl rfl ?_
  refine go_getR 0 f_X9_10 rfl (hL.1 0 _ rfl) (hL.2.1 0 0 _ rfl (by decide)) dX9_strip_1 ?_
  refine go_iload_n 1 dX9_strip_4 rfl rfl ?_
  refine go_vIp (M := MX8_hasStrip) [vI v1] [] mv_X9_189 (hL.1 1 _ rfl) rfl (by decide) ⟨Nat.le_of_ble_eq_true rfl, Nat.le_of_ble_eq_true rfl⟩ ⟨Nat.le_refl _, Nat.le_refl _⟩ rfl rfl (Nat.le_of_ble_eq_true rfl) dX9_strip_5 (p_X8_hasStrip hL s1) ?_
  refine go_ifb_ne 17 dX9_strip_8 (by decide) (fun c3 => ?_) (fun c3 => ?_)
  · have h := h.1 c3
    obtain ⟨s4, h⟩ := h
    refine go_iload_n 2 dX9_strip_17 rfl rfl ?_
    obtain ⟨hk0, hk1, hk2, hk3, hk4, hdf⟩ := h
    rcases (show v2 = 0 ∨ v2 = 1 ∨ v2 = 2 ∨ v2 = 3 ∨ v2 = 4 ∨ (v2 < 0 ∨ 4 < v2) by omega) with hx22 | hx22 | hx22 | hx22 | hx22 | hx22
    · refine go_tableIn v2 52 dX9_strip_18 s4 (by omega) (by rw [hx22]; rfl) (by decide) ?_
      have h := hk0 hx22
      obtain ⟨s5, h⟩ := h
      refine go_aload_n 0 dX9_strip_52 rfl rfl ?_
      refine go_aload_n 0 dX9_strip_53 rfl rfl ?_
      refine go_getR 0 f_X9_10 rfl (hL.1 0 _ rfl) (hL.2.1 0 0 _ rfl (by decide)) dX9_strip_54 ?_
      refine go_getR 5 f_X9_192 rfl (hL.1 1 _ rfl) (hL.2.1 1 5 _ rfl (by decide)) dX9_strip_57 ?_
      refine go_iload_n 1 dX9_strip_60 rfl rfl ?_
      refine go_iaload (hL.1 2 _ rfl) (b := 10) rfl (by decide) s5 dX9_strip_61 ?_
      refine go_vIp (M := MX9_answer) [vI (D 2 v1)] [] mv_X9_180 (hL.1 0 _ rfl) rfl (by decide) ⟨Nat.le_of_ble_eq_true rfl, Nat.le_of_ble_eq_true rfl⟩ ⟨Nat.le_refl _, Nat.le_refl _⟩ rfl rfl (Nat.le_of_ble_eq_true rfl) dX9_strip_62 (p_X9_answer hL) ?_
      exact go_ireturn (Nat.le_refl _) (Nat.le_refl _) rfl dX9_strip_65 h
    · refine go_tableIn v2 66 dX9_strip_18 s4 (by omega) (by rw [hx22]; rfl) (by decide) ?_
      have h := hk1 hx22
      obtain ⟨s7, h⟩ := h
      refine go_aload_n 0 dX9_strip_66 rfl rfl ?_
      refine go_aload_n 0 dX9_strip_67 rfl rfl ?_
      refine go_getR 0 f_X9_10 rfl (hL.1 0 _ rfl) (hL.2.1 0 0 _ rfl (by decide)) dX9_strip_68 ?_
      refine go_getR 6 f_X9_195 rfl (hL.1 1 _ rfl) (hL.2.1 1 6 _ rfl (by decide)) dX9_strip_71 ?_
      refine go_iload_n 1 dX9_strip_74 rfl rfl ?_
      refine go_iaload (hL.1 3 _ rfl) (b := 10) rfl (by decide) s7 dX9_strip_75 ?_
      refine go_vIp (M := MX9_answer) [vI (D 3 v1)] [] mv_X9_180 (hL.1 0 _ rfl) rfl (by decide) ⟨Nat.le_of_ble_eq_true rfl, Nat.le_of_ble_eq_true rfl⟩ ⟨Nat.le_refl _, Nat.le_refl _⟩ rfl rfl (Nat.le_of_ble_eq_true rfl) dX9_strip_76 (p_X9_answer hL) ?_
      exact go_ireturn (Nat.le_refl _) (Nat.le_refl _) rfl dX9_strip_79 h
    · refine go_tableIn v2 80 dX9_strip_18 s4 (by omega) (by rw [hx22]; rfl) (by decide) ?_
      have h := hk2 hx22
      obtain ⟨s9, h⟩ := h
      refine go_aload_n 0 dX9_strip_80 rfl rfl ?_
      refine go_aload_n 0 dX9_strip_81 rfl rfl ?_
      refine go_getR 0 f_X9_10 rfl (hL.1 0 _ rfl) (hL.2.1 0 0 _ rfl (by decide)) dX9_strip_82 ?_
      refine go_getR 7 f_X9_198 rfl (hL.1 1 _ rfl) (hL.2.1 1 7 _ rfl (by decide)) dX9_strip_85 ?_
      refine go_iload_n 1 dX9_strip_88 rfl rfl ?_
      refine go_iaload (hL.1 4 _ rfl) (b := 10) rfl (by decide) s9 dX9_strip_89 ?_
      refine go_vIp (M := MX9_answer) [vI (D 4 v1)] [] mv_X9_180 (hL.1 0 _ rfl) rfl (by decide) ⟨Nat.le_of_ble_eq_true rfl, Nat.le_of_ble_eq_true rfl⟩ ⟨Nat.le_refl _, Nat.le_refl _⟩ rfl rfl (Nat.le_of_ble_eq_true rfl) dX9_strip_90 (p_X9_answer hL) ?_
      exact go_ireturn (Nat.le_refl _) (Nat.le_refl _) rfl dX9_strip_93 h
    · refine go_tableIn v2 94 dX9_strip_18 s4 (by omega) (by rw [hx22]; rfl) (by decide) ?_
      have h := hk3 hx22
      obtain ⟨s11, h⟩ := h
      refine go_aload_n 0 dX9_strip_94 rfl rfl ?_
      refine go_aload_n 0 dX9_strip_95 rfl rfl ?_
      refine go_getR 0 f_X9_10 rfl (hL.1 0 _ rfl) (hL.2.1 0 0 _ rfl (by decide)) dX9_strip_96 ?_
      refine go_getR 8 f_X9_201 rfl (hL.1 1 _ rfl) (hL.2.1 1 8 _ rfl (by decide)) dX9_strip_99 ?_
      refine go_iload_n 1 dX9_strip_102 rfl rfl ?_
      refine go_iaload (hL.1 5 _ rfl) (b := 10) rfl (by decide) s11 dX9_strip_103 ?_
      refine go_vIp (M := MX9_answer) [vI (D 5 v1)] [] mv_X9_180 (hL.1 0 _ rfl) rfl (by decide) ⟨Nat.le_of_ble_eq_true rfl, Nat.le_of_ble_eq_true rfl⟩ ⟨Nat.le_refl _, Nat.le_refl _⟩ rfl rfl (Nat.le_of_ble_eq_true rfl) dX9_strip_104 (p_X9_answer hL) ?_
      exact go_ireturn (Nat.le_refl _) (Nat.le_refl _) rfl dX9_strip_107 h
    · refine go_tableIn v2 108 dX9_strip_18 s4 (by omega) (by rw [hx22]; rfl) (by decide) ?_
      have h := hk4 hx22
      obtain ⟨s13, h⟩ := h
      refine go_aload_n 0 dX9_strip_108 rfl rfl ?_
      refine go_getR 0 f_X9_10 rfl (hL.1 0 _ rfl) (hL.2.1 0 0 _ rfl (by decide)) dX9_strip_109 ?_
      refine go_getR 9 f_X9_204 rfl (hL.1 1 _ rfl) (hL.2.1 1 9 _ rfl (by decide)) dX9_strip_112 ?_
      refine go_iload_n 1 dX9_strip_115 rfl rfl ?_
      refine go_iaload (hL.1 6 _ rfl) (b := 10) rfl (by decide) s13 dX9_strip_116 ?_
      refine go_iconst dX9_strip_117 ?_
      refine go_rngI (c := 6) (i := v1) (hL.1 6 _ rfl) rfl (fun (q14 : -2147483648 ≤ (D 6 v1) ∧ (D 6 v1) < 2147483648) => ?_)
      refine go_icmp_ne 130 dX9_strip_118 (by decide) q14 (by decide) (fun c15 => ?_) (fun c15 => ?_)
      · have h := h.1 c15
        refine go_aload_n 0 dX9_strip_130 rfl rfl ?_
        refine go_aload_n 0 dX9_strip_131 rfl rfl ?_
        refine go_getR 0 f_X9_10 rfl (hL.1 0 _ rfl) (hL.2.1 0 0 _ rfl (by decide)) dX9_strip_132 ?_
        refine go_getR 9 f_X9_204 rfl (hL.1 1 _ rfl) (hL.2.1 1 9 _ rfl (by decide)) dX9_strip_135 ?_
        refine go_iload_n 1 dX9_strip_138 rfl rfl ?_
        refine go_iaload (hL.1 6 _ rfl) (b := 10) rfl (by decide) s13 dX9_strip_139 ?_
        refine go_vIp (M := MX9_answer) [vI (D 6 v1)] [] mv_X9_180 (hL.1 0 _ rfl) rfl (by decide) ⟨Nat.le_of_ble_eq_true rfl, Nat.le_of_ble_eq_true rfl⟩ ⟨Nat.le_refl _, Nat.le_refl _⟩ rfl rfl (Nat.le_of_ble_eq_true rfl) dX9_strip_140 (p_X9_answer hL) ?_
        exact go_ireturn (Nat.le_refl _) (Nat.le_refl _) rfl dX9_strip_143 h
      · have h := h.2 c15
        refine go_aload_n 0 dX9_strip_121 rfl rfl ?_
        refine go_bipush dX9_strip_122 (by decide) ?_
        refine go_vIp (M := MX9_none) [vI 6] [] mv_X9_130 (hL.1 0 _ rfl) rfl (by decide) ⟨Nat.le_of_ble_eq_true rfl, Nat.le_of_ble_eq_true rfl⟩ ⟨Nat.le_refl _, Nat.le_refl _⟩ rfl rfl (Nat.le_of_ble_eq_true rfl) dX9_strip_124 (p_X9_none hL (by decide)) ?_
        refine go_goto 143 dX9_strip_127 (by decide) ?_
        exact go_ireturn (Nat.le_refl _) (Nat.le_refl _) rfl dX9_strip_143 h
    · refine go_tableOut 144 dX9_strip_18 s4 hx22 (by decide) ?_
      have h := hdf hx22
      refine go_aload_n 0 dX9_strip_144 rfl rfl ?_
      refine go_iconst dX9_strip_145 ?_
      refine go_vIp (M := MX9_none) [vI 1] [] mv_X9_130 (hL.1 0 _ rfl) rfl (by decide) ⟨Nat.le_of_ble_eq_true rfl, Nat.le_of_ble_eq_true rfl⟩ ⟨Nat.le_refl _, Nat.le_refl _⟩ rfl rfl (Nat.le_of_ble_eq_true rfl) dX9_strip_146 (p_X9_none hL (by decide)) ?_
      exact go_ireturn (Nat.le_refl _) (Nat.le_refl _) rfl dX9_strip_149 h
  · have h := h.2 c3
    refine go_aload_n 0 dX9_strip_11 rfl rfl ?_
    refine go_iconst dX9_strip_12 ?_
    refine go_vIp (M := MX9_none) [vI 1] [] mv_X9_130 (hL.1 0 _ rfl) rfl (by decide) ⟨Nat.le_of_ble_eq_true rfl, Nat.le_of_ble_eq_true rfl⟩ ⟨Nat.le_refl _, Nat.le_refl _⟩ rfl rfl (Nat.le_of_ble_eq_true rfl) dX9_strip_13 (p_X9_none hL (by decide)) ?_
    exact go_ireturn (Nat.le_refl _) (Nat.le_refl _) rfl dX9_strip_16 h
theorem s_X9_harm {l : Launch} {E : Ev} {Q : Int → Sh → Dm → Prop} {G : Sh} {D : Dm} (hL : Lay G) {v1 v2 : Int}  (h : ((-2147483648 ≤ v1 ∧ v1 < 2147483648)) ∧ ((((0 ≤ v1) ∧ (v1 < (D 1 1))) → ((-2147483648 ≤ v2 ∧ v2 < 2147483648)) ∧ (v2 = 0 → ((0 ≤ v1 ∧ v1 < 6)) ∧ Q (D 7 v1) G (upd2 D 0 11 0)) ∧ (v2 = 1 → ((0 ≤ v1 ∧ v1 < 6)) ∧ Q (D 8 v1) G (upd2 D 0 11 0)) ∧ (v2 = 2 → ((0 ≤ v1 ∧ v1 < 6)) ∧ Q (D 9 v1) G (upd2 D 0 11 0)) ∧ (v2 = 3 → ((0 ≤ v1 ∧ v1 < 6)) ∧ Q (D 10 v1) G (upd2 D 0 11 0)) ∧ ((v2 < 0 ∨ 3 < v2) → Q (-1) G (upd2 D 0 11 1))) ∧ (¬ ((0 ≤ v1) ∧ (v1 < (D 1 1))) → Q (-1) G (upd2 D 0 11 1)))) : Ct l E MX9_harm 0 0 0 [vR E 0, vI v1, vI v2] G D Q := by
  refine Ct.of (by decide) (Nat.le_of_ble_eq_true rfl) ?_
  show KX9_harm l E Q 0 [(0, vR E 0), (1, vI v1), (2, vI v2)] G D
  obtain ⟨s1, h⟩ := h
  refine go_aload_n 0 dX9_harm_0 rfl rfl ?_
  refine go_getR 0 f_X9_10 rfl (hL.1 0 _ rfl) (hL.2.1 0 0 _ rfl (by decide)) dX9_harm_1 ?_
  refine go_iload_n 1 dX9_harm_4 rfl rfl ?_
  refine go_vIp (M := MX8_hasHarm) [vI v1] [] mv_X9_207 (hL.1 1 _ rfl) rfl (by decide) ⟨Nat.le_of_ble_eq_true rfl, Nat.le_of_ble_eq_true rfl⟩ ⟨Nat.le_refl _, Nat.le_refl _⟩ rfl rfl (Nat.le_of_ble_eq_true rfl) dX9_harm_5 (p_X8_hasHarm hL s1) ?_
  refine go_ifb_ne 17 dX9_harm_8 (by decide) (fun c3 => ?_) (fun c3 => ?_)
  · have h := h.1 c3
    obtain ⟨s4, h⟩ := h
    refine go_iload_n 2 dX9_harm_17 rfl rfl ?_
    obtain ⟨hk0, hk1, hk2, hk3, hdf⟩ := h
    rcases (show v2 = 0 ∨ v2 = 1 ∨ v2 = 2 ∨ v2 = 3 ∨ (v2 < 0 ∨ 3 < v2) by omega) with hx15 | hx15 | hx15 | hx15 | hx15
    · refine go_tableIn v2 48 dX9_harm_18 s4 (by omega) (by rw [hx15]; rfl) (by decide) ?_
      have h := hk0 hx15
      obtain ⟨s5, h⟩ := h
      refine go_aload_n 0 dX9_harm_48 rfl rfl ?_
      refine go_aload_n 0 dX9_harm_49 rfl rfl ?_
      refine go_getR 0 f_X9_10 rfl (hL.1 0 _ rfl) (hL.2.1 0 0 _ rfl (by decide)) dX9_harm_50 ?_
      refine go_getR 10 f_X9_210 rfl (hL.1 1 _ rfl) (hL.2.1 1 10 _ rfl (by decide)) dX9_harm_53 ?_
      refine go_iload_n 1 dX9_harm_56 rfl rfl ?_
      refine go_iaload (hL.1 7 _ rfl) (b := 6) rfl (by decide) s5 dX9_harm_57 ?_
      refine go_vIp (M := MX9_answer) [vI (D 7 v1)] [] mv_X9_180 (hL.1 0 _ rfl) rfl (by decide) ⟨Nat.le_of_ble_eq_true rfl, Nat.le_of_ble_eq_true rfl⟩ ⟨Nat.le_refl _, Nat.le_refl _⟩ rfl rfl (Nat.le_of_ble_eq_true rfl) dX9_harm_58 (p_X9_answer hL) ?_
      exact go_ireturn (Nat.le_refl _) (Nat.le_refl _) rfl dX9_harm_61 h
    · refine go_tableIn v2 62 dX9_harm_18 s4 (by omega) (by rw [hx15]; rfl) (by decide) ?_
      have h := hk1 hx15
      obtain ⟨s7, h⟩ := h
      refine go_aload_n 0 dX9_harm_62 rfl rfl ?_
      refine go_aload_n 0 dX9_harm_63 rfl rfl ?_
      refine go_getR 0 f_X9_10 rfl (hL.1 0 _ rfl) (hL.2.1 0 0 _ rfl (by decide)) dX9_harm_64 ?_
      refine go_getR 11 f_X9_213 rfl (hL.1 1 _ rfl) (hL.2.1 1 11 _ rfl (by decide)) dX9_harm_67 ?_
      refine go_iload_n 1 dX9_harm_70 rfl rfl ?_
      refine go_iaload (hL.1 8 _ rfl) (b := 6) rfl (by decide) s7 dX9_harm_71 ?_
      refine go_vIp (M := MX9_answer) [vI (D 8 v1)] [] mv_X9_180 (hL.1 0 _ rfl) rfl (by decide) ⟨Nat.le_of_ble_eq_true rfl, Nat.le_of_ble_eq_true rfl⟩ ⟨Nat.le_refl _, Nat.le_refl _⟩ rfl rfl (Nat.le_of_ble_eq_true rfl) dX9_harm_72 (p_X9_answer hL) ?_
      exact go_ireturn (Nat.le_refl _) (Nat.le_refl _) rfl dX9_harm_75 h
    · refine go_tableIn v2 76 dX9_harm_18 s4 (by omega) (by rw [hx15]; rfl) (by decide) ?_
      have h := hk2 hx15
      obtain ⟨s9, h⟩ := h
      refine go_aload_n 0 dX9_harm_76 rfl rfl ?_
      refine go_aload_n 0 dX9_harm_77 rfl rfl ?_
      refine go_getR 0 f_X9_10 rfl (hL.1 0 _ rfl) (hL.2.1 0 0 _ rfl (by decide)) dX9_harm_78 ?_
      refine go_getR 12 f_X9_216 rfl (hL.1 1 _ rfl) (hL.2.1 1 12 _ rfl (by decide)) dX9_harm_81 ?_
      refine go_iload_n 1 dX9_harm_84 rfl rfl ?_
      refine go_iaload (hL.1 9 _ rfl) (b := 6) rfl (by decide) s9 dX9_harm_85 ?_
      refine go_vIp (M := MX9_answer) [vI (D 9 v1)] [] mv_X9_180 (hL.1 0 _ rfl) rfl (by decide) ⟨Nat.le_of_ble_eq_true rfl, Nat.le_of_ble_eq_true rfl⟩ ⟨Nat.le_refl _, Nat.le_refl _⟩ rfl rfl (Nat.le_of_ble_eq_true rfl) dX9_harm_86 (p_X9_answer hL) ?_
      exact go_ireturn (Nat.le_refl _) (Nat.le_refl _) rfl dX9_harm_89 h
    · refine go_tableIn v2 90 dX9_harm_18 s4 (by omega) (by rw [hx15]; rfl) (by decide) ?_
      have h := hk3 hx15
      obtain ⟨s11, h⟩ := h
      refine go_aload_n 0 dX9_harm_90 rfl rfl ?_
      refine go_aload_n 0 dX9_harm_91 rfl rfl ?_
      refine go_getR 0 f_X9_10 rfl (hL.1 0 _ rfl) (hL.2.1 0 0 _ rfl (by decide)) dX9_harm_92 ?_
      refine go_getR 13 f_X9_219 rfl (hL.1 1 _ rfl) (hL.2.1 1 13 _ rfl (by decide)) dX9_harm_95 ?_
      refine go_iload_n 1 dX9_harm_98 rfl rfl ?_
      refine go_iaload (hL.1 10 _ rfl) (b := 6) rfl (by decide) s11 dX9_harm_99 ?_
      refine go_vIp (M := MX9_answer) [vI (D 10 v1)] [] mv_X9_180 (hL.1 0 _ rfl) rfl (by decide) ⟨Nat.le_of_ble_eq_true rfl, Nat.le_of_ble_eq_true rfl⟩ ⟨Nat.le_refl _, Nat.le_refl _⟩ rfl rfl (Nat.le_of_ble_eq_true rfl) dX9_harm_100 (p_X9_answer hL) ?_
      exact go_ireturn (Nat.le_refl _) (Nat.le_refl _) rfl dX9_harm_103 h
    · refine go_tableOut 104 dX9_harm_18 s4 hx15 (by decide) ?_
      have h := hdf hx15
      refine go_aload_n 0 dX9_harm_104 rfl rfl ?_
      refine go_iconst dX9_harm_105 ?_
      refine go_vIp (M := MX9_none) [vI 1] [] mv_X9_130 (hL.1 0 _ rfl) rfl (by decide) ⟨Nat.le_of_ble_eq_true rfl, Nat.le_of_ble_eq_true rfl⟩ ⟨Nat.le_refl _, Nat.le_refl _⟩ rfl rfl (Nat.le_of_ble_eq_true rfl) dX9_harm_106 (p_X9_none hL (by decide)) ?_
      exact go_ireturn (Nat.le_refl _) (Nat.le_refl _) rfl dX9_harm_109 h
  · have h := h.2 c3
    refine go_aload_n 0 dX9_harm_11 rfl rfl ?_
    refine go_iconst dX9_harm_12 ?_
    refine go_vIp (M := MX9_none) [vI 1] [] mv_X9_130 (hL.1 0 _ rfl) rfl (by decide) ⟨Nat.le_of_ble_eq_true rfl, Nat.le_of_ble_eq_true rfl⟩ ⟨Nat.le_refl _, Nat.le_refl _⟩ rfl rfl (Nat.le_of_ble_eq_true rfl) dX9_harm_13 (p_X9_none hL (by decide)) ?_
    exact go_ireturn (Nat.le_refl _) (Nat.le_refl _) rfl dX9_harm_16 h
theorem s_X9_family {l : Launch} {E : Ev} {Q : Int → Sh → Dm → Prop} {G : Sh} {D : Dm} (hL : Lay G) {v1 v2 : Int}  (h : ((-2147483648 ≤ v1 ∧ v1 < 2147483648)) ∧ ((((0 ≤ v1) ∧ (v1 < (D 1 2))) → ((-2147483648 ≤ v2 ∧ v2 < 2147483648)) ∧ (v2 = 0 → ((0 ≤ v1 ∧ v1 < 4)) ∧ Q (D 11 v1) G (upd2 D 0 11 0)) ∧ (v2 = 1 → ((0 ≤ v1 ∧ v1 < 4)) ∧ Q (D 12 v1) G (upd2 D 0 11 0)) ∧ (v2 = 2 → ((0 ≤ v1 ∧ v1 < 4)) ∧ Q (D 13 v1) G (upd2 D 0 11 0)) ∧ (v2 = 3 → C0 l E MX8_heldBy 0 [vR E 1, vI v1] G D (fun r12 D12 => Q r12 G (upd2 D12 0 11 0))) ∧ ((v2 < 0 ∨ 3 < v2) → Q (-1) G (upd2 D 0 11 1))) ∧ (¬ ((0 ≤ v1) ∧ (v1 < (D 1 2))) → Q (-1) G (upd2 D 0 11 1)))) : Ct l E MX9_family 0 0 0 [vR E 0, vI v1, vI v2] G D Q := by
  refine Ct.of (by decide) (Nat.le_of_ble_eq_true rfl) ?_
  show KX9_family l E Q 0 [(0, vR E 0), (1, vI v1), (2, vI v2)] G D
  obtain ⟨s1, h⟩ := h
  refine go_aload_n 0 dX9_family_0 rfl rfl ?_
  refine go_getR 0 f_X9_10 rfl (hL.1 0 _ rfl) (hL.2.1 0 0 _ rfl (by decide)) dX9_family_1 ?_
  refine go_iload_n 1 dX9_family_4 rfl rfl ?_
  refine go_vIp (M := MX8_hasFamily) [vI v1] [] mv_X9_222 (hL.1 1 _ rfl) rfl (by decide) ⟨Nat.le_of_ble_eq_true rfl, Nat.le_of_ble_eq_true rfl⟩ ⟨Nat.le_refl _, Nat.le_refl _⟩ rfl rfl (Nat.le_of_ble_eq_true rfl) dX9_family_5 (p_X8_hasFamily hL s1) ?_
  refine go_ifb_ne 17 dX9_family_8 (by decide) (fun c3 => ?_) (fun c3 => ?_)
  · have h := h.1 c3
    obtain ⟨s4, h⟩ := h
    refine go_iload_n 2 dX9_family_17 rfl rfl ?_
    obtain ⟨hk0, hk1, hk2, hk3, hdf⟩ := h
    rcases (show v2 = 0 ∨ v2 = 1 ∨ v2 = 2 ∨ v2 = 3 ∨ (v2 < 0 ∨ 3 < v2) by omega) with hx17 | hx17 | hx17 | hx17 | hx17
    · refine go_tableIn v2 48 dX9_family_18 s4 (by omega) (by rw [hx17]; rfl) (by decide) ?_
      have h := hk0 hx17
      obtain ⟨s5, h⟩ := h
      refine go_aload_n 0 dX9_family_48 rfl rfl ?_
      refine go_aload_n 0 dX9_family_49 rfl rfl ?_
      refine go_getR 0 f_X9_10 rfl (hL.1 0 _ rfl) (hL.2.1 0 0 _ rfl (by decide)) dX9_family_50 ?_
      refine go_getR 14 f_X9_225 rfl (hL.1 1 _ rfl) (hL.2.1 1 14 _ rfl (by decide)) dX9_family_53 ?_
      refine go_iload_n 1 dX9_family_56 rfl rfl ?_
      refine go_iaload (hL.1 11 _ rfl) (b := 4) rfl (by decide) s5 dX9_family_57 ?_
      refine go_vIp (M := MX9_answer) [vI (D 11 v1)] [] mv_X9_180 (hL.1 0 _ rfl) rfl (by decide) ⟨Nat.le_of_ble_eq_true rfl, Nat.le_of_ble_eq_true rfl⟩ ⟨Nat.le_refl _, Nat.le_refl _⟩ rfl rfl (Nat.le_of_ble_eq_true rfl) dX9_family_58 (p_X9_answer hL) ?_
      exact go_ireturn (Nat.le_refl _) (Nat.le_refl _) rfl dX9_family_61 h
    · refine go_tableIn v2 62 dX9_family_18 s4 (by omega) (by rw [hx17]; rfl) (by decide) ?_
      have h := hk1 hx17
      obtain ⟨s7, h⟩ := h
      refine go_aload_n 0 dX9_family_62 rfl rfl ?_
      refine go_aload_n 0 dX9_family_63 rfl rfl ?_
      refine go_getR 0 f_X9_10 rfl (hL.1 0 _ rfl) (hL.2.1 0 0 _ rfl (by decide)) dX9_family_64 ?_
      refine go_getR 15 f_X9_228 rfl (hL.1 1 _ rfl) (hL.2.1 1 15 _ rfl (by decide)) dX9_family_67 ?_
      refine go_iload_n 1 dX9_family_70 rfl rfl ?_
      refine go_iaload (hL.1 12 _ rfl) (b := 4) rfl (by decide) s7 dX9_family_71 ?_
      refine go_vIp (M := MX9_answer) [vI (D 12 v1)] [] mv_X9_180 (hL.1 0 _ rfl) rfl (by decide) ⟨Nat.le_of_ble_eq_true rfl, Nat.le_of_ble_eq_true rfl⟩ ⟨Nat.le_refl _, Nat.le_refl _⟩ rfl rfl (Nat.le_of_ble_eq_true rfl) dX9_family_72 (p_X9_answer hL) ?_
      exact go_ireturn (Nat.le_refl _) (Nat.le_refl _) rfl dX9_family_75 h
    · refine go_tableIn v2 76 dX9_family_18 s4 (by omega) (by rw [hx17]; rfl) (by decide) ?_
      have h := hk2 hx17
      obtain ⟨s9, h⟩ := h
      refine go_aload_n 0 dX9_family_76 rfl rfl ?_
      refine go_aload_n 0 dX9_family_77 rfl rfl ?_
      refine go_getR 0 f_X9_10 rfl (hL.1 0 _ rfl) (hL.2.1 0 0 _ rfl (by decide)) dX9_family_78 ?_
      refine go_getR 16 f_X9_231 rfl (hL.1 1 _ rfl) (hL.2.1 1 16 _ rfl (by decide)) dX9_family_81 ?_
      refine go_iload_n 1 dX9_family_84 rfl rfl ?_
      refine go_iaload (hL.1 13 _ rfl) (b := 4) rfl (by decide) s9 dX9_family_85 ?_
      refine go_vIp (M := MX9_answer) [vI (D 13 v1)] [] mv_X9_180 (hL.1 0 _ rfl) rfl (by decide) ⟨Nat.le_of_ble_eq_true rfl, Nat.le_of_ble_eq_true rfl⟩ ⟨Nat.le_refl _, Nat.le_refl _⟩ rfl rfl (Nat.le_of_ble_eq_true rfl) dX9_family_86 (p_X9_answer hL) ?_
      exact go_ireturn (Nat.le_refl _) (Nat.le_refl _) rfl dX9_family_89 h
    · refine go_tableIn v2 90 dX9_family_18 s4 (by omega) (by rw [hx17]; rfl) (by decide) ?_
      have h := hk3 hx17
      refine go_aload_n 0 dX9_family_90 rfl rfl ?_
      refine go_aload_n 0 dX9_family_91 rfl rfl ?_
      refine go_getR 0 f_X9_10 rfl (hL.1 0 _ rfl) (hL.2.1 0 0 _ rfl (by decide)) dX9_family_92 ?_
      refine go_iload_n 1 dX9_family_95 rfl rfl ?_
      refine go_vI (M := MX8_heldBy) [vI v1] [vR E 0] mv_X9_234 (hL.1 1 _ rfl) rfl (by decide) ⟨Nat.le_of_ble_eq_true rfl, Nat.le_of_ble_eq_true rfl⟩ ⟨Nat.le_refl _, Nat.le_refl _⟩ rfl rfl (Nat.le_of_ble_eq_true rfl) dX9_family_96 h (fun r12 D12 h => ?_)
      refine go_vIp (M := MX9_answer) [vI r12] [] mv_X9_180 (hL.1 0 _ rfl) rfl (by decide) ⟨Nat.le_of_ble_eq_true rfl, Nat.le_of_ble_eq_true rfl⟩ ⟨Nat.le_refl _, Nat.le_refl _⟩ rfl rfl (Nat.le_of_ble_eq_true rfl) dX9_family_99 (p_X9_answer hL) ?_
      exact go_ireturn (Nat.le_refl _) (Nat.le_refl _) rfl dX9_family_102 h
    · refine go_tableOut 103 dX9_family_18 s4 hx17 (by decide) ?_
      have h := hdf hx17
      refine go_aload_n 0 dX9_family_103 rfl rfl ?_
      refine go_iconst dX9_family_104 ?_
      refine go_vIp (M := MX9_none) [vI 1] [] mv_X9_130 (hL.1 0 _ rfl) rfl (by decide) ⟨Nat.le_of_ble_eq_true rfl, Nat.le_of_ble_eq_true rfl⟩ ⟨Nat.le_refl _, Nat.le_refl _⟩ rfl rfl (Nat.le_of_ble_eq_true rfl) dX9_family_105 (p_X9_none hL (by decide)) ?_
      exact go_ireturn (Nat.le_refl _) (Nat.le_refl _) rfl dX9_family_108 h
  · have h := h.2 c3
    refine go_aload_n 0 dX9_family_11 rfl rfl ?_
    refine go_iconst dX9_family_12 ?_
    refine go_vIp (M := MX9_none) [vI 1] [] mv_X9_130 (hL.1 0 _ rfl) rfl (by decide) ⟨Nat.le_of_ble_eq_true rfl, Nat.le_of_ble_eq_true rfl⟩ ⟨Nat.le_refl _, Nat.le_refl _⟩ rfl rfl (Nat.le_of_ble_eq_true rfl) dX9_family_13 (p_X9_none hL (by decide)) ?_
    exact go_ireturn (Nat.le_refl _) (Nat.le_refl _) rfl dX9_family_16 h
theorem s_X9_hold {l : Launch} {E : Ev} {Q : Int → Sh → Dm → Prop} {G : Sh} {D : Dm} (hL : Lay G) {v1 v2 : Int}  (h : ((-2147483648 ≤ v1 ∧ v1 < 2147483648)) ∧ ((¬ ((0 ≤ v1) ∧ (v1 < (D 1 0))) → Q 0 G (upd2 D 0 11 1)) ∧ (((0 ≤ v1) ∧ (v1 < (D 1 0))) → ((-2147483648 ≤ v2 ∧ v2 < 2147483648)) ∧ ((((v2 = (-1)) ∨ ((0 ≤ v2) ∧ (v2 < (D 1 2)))) → ((0 ≤ v1 ∧ v1 < 10)) ∧ (((D 6 v1) ≠ v2 → Q 1 G (upd2 (upd2 D 6 v1 v2) 0 11 0)) ∧ ((D 6 v1) = v2 → Q 0 G (upd2 D 0 11 7)))) ∧ (¬ ((v2 = (-1)) ∨ ((0 ≤ v2) ∧ (v2 < (D 1 2)))) → Q 0 G (upd2 D 0 11 1)))))) : Ct l E MX9_hold 0 0 0 [vR E 0, vI v1, vI v2] G D Q := by
  refine Ct.of (by decide) (Nat.le_of_ble_eq_true rfl) ?_
  show KX9_hold l E Q 0 [(0, vR E 0), (1, vI v1), (2, vI v2)] G D
  obtain ⟨s1, h⟩ := h
  refine go_aload_n 0 dX9_hold_0 rfl rfl ?_
  refine go_getR 0 f_X9_10 rfl (hL.1 0 _ rfl) (hL.2.1 0 0 _ rfl (by decide)) dX9_hold_1 ?_
  refine go_iload_n 1 dX9_hold_4 rfl rfl ?_
  refine go_vIp (M := MX8_hasStrip) [vI v1] [] mv_X9_189 (hL.1 1 _ rfl) rfl (by decide) ⟨Nat.le_of_ble_eq_true rfl, Nat.le_of_ble_eq_true rfl⟩ ⟨Nat.le_refl _, Nat.le_refl _⟩ rfl rfl (Nat.le_of_ble_eq_true rfl) dX9_hold_5 (p_X8_hasStrip hL s1) ?_
  refine go_ifb_eq 22 dX9_hold_8 (by decide) (fun c3 => ?_) (fun c3 => ?_)
  · have h := h.1 c3
    refine go_aload_n 0 dX9_hold_22 rfl rfl ?_
    refine go_iconst dX9_hold_23 ?_
    refine go_vIp (M := MX9_refuse) [vI 1] [] mv_X9_111 (hL.1 0 _ rfl) rfl (by decide) ⟨Nat.le_of_ble_eq_true rfl, Nat.le_of_ble_eq_true rfl⟩ ⟨Nat.le_refl _, Nat.le_refl _⟩ rfl rfl (Nat.le_of_ble_eq_true rfl) dX9_hold_24 (p_X9_refuse hL (by decide)) ?_
    exact go_zreturn (Nat.le_refl _) (Nat.le_refl _) rfl (by decide) dX9_hold_27 h
  · have h := h.2 c3
    obtain ⟨s6, h⟩ := h
    refine go_aload_n 0 dX9_hold_11 rfl rfl ?_
    refine go_getR 0 f_X9_10 rfl (hL.1 0 _ rfl) (hL.2.1 0 0 _ rfl (by decide)) dX9_hold_12 ?_
    refine go_iload_n 2 dX9_hold_15 rfl rfl ?_
    refine go_vIp (M := MX8_hasFamilyOrNone) [vI v2] [] mv_X9_237 (hL.1 1 _ rfl) rfl (by decide) ⟨Nat.le_of_ble_eq_true rfl, Nat.le_of_ble_eq_true rfl⟩ ⟨Nat.le_refl _, Nat.le_refl _⟩ rfl rfl (Nat.le_of_ble_eq_true rfl) dX9_hold_16 (p_X8_hasFamilyOrNone hL s6) ?_
    refine go_ifb_ne 28 dX9_hold_19 (by decide) (fun c8 => ?_) (fun c8 => ?_)
    · have h := h.1 c8
      obtain ⟨s9, h⟩ := h
      refine go_aload_n 0 dX9_hold_28 rfl rfl ?_
      refine go_getR 0 f_X9_10 rfl (hL.1 0 _ rfl) (hL.2.1 0 0 _ rfl (by decide)) dX9_hold_29 ?_
      refine go_getR 9 f_X9_204 rfl (hL.1 1 _ rfl) (hL.2.1 1 9 _ rfl (by decide)) dX9_hold_32 ?_
      refine go_iload_n 1 dX9_hold_35 rfl rfl ?_
      refine go_iaload (hL.1 6 _ rfl) (b := 10) rfl (by decide) s9 dX9_hold_36 ?_
      refine go_iload_n 2 dX9_hold_37 rfl rfl ?_
      refine go_rngI (c := 6) (i := v1) (hL.1 6 _ rfl) rfl (fun (q10 : -2147483648 ≤ (D 6 v1) ∧ (D 6 v1) < 2147483648) => ?_)
      refine go_icmp_ne 48 dX9_hold_38 (by decide) q10 s6 (fun c11 => ?_) (fun c11 => ?_)
      · have h := h.1 c11
        refine go_aload_n 0 dX9_hold_48 rfl rfl ?_
        refine go_getR 0 f_X9_10 rfl (hL.1 0 _ rfl) (hL.2.1 0 0 _ rfl (by decide)) dX9_hold_49 ?_
        refine go_getR 9 f_X9_204 rfl (hL.1 1 _ rfl) (hL.2.1 1 9 _ rfl (by decide)) dX9_hold_52 ?_
        refine go_iload_n 1 dX9_hold_55 rfl rfl ?_
        refine go_iload_n 2 dX9_hold_56 rfl rfl ?_
        refine go_iastore (hL.1 6 _ rfl) (b := 10) rfl (by decide) s9 s6 dX9_hold_57 ?_
        refine go_aload_n 0 dX9_hold_58 rfl rfl ?_
        refine go_vIp (M := MX9_agree) [] [] mv_X9_118 (hL.1 0 _ rfl) rfl (by decide) ⟨Nat.le_of_ble_eq_true rfl, Nat.le_of_ble_eq_true rfl⟩ ⟨Nat.le_refl _, Nat.le_refl _⟩ rfl rfl (Nat.le_of_ble_eq_true rfl) dX9_hold_59 (p_X9_agree hL) ?_
        exact go_zreturn (Nat.le_refl _) (Nat.le_refl _) rfl (by decide) dX9_hold_62 h
      · have h := h.2 c11
        refine go_aload_n 0 dX9_hold_41 rfl rfl ?_
        refine go_bipush dX9_hold_42 (by decide) ?_
        refine go_vIp (M := MX9_refuse) [vI 7] [] mv_X9_111 (hL.1 0 _ rfl) rfl (by decide) ⟨Nat.le_of_ble_eq_true rfl, Nat.le_of_ble_eq_true rfl⟩ ⟨Nat.le_refl _, Nat.le_refl _⟩ rfl rfl (Nat.le_of_ble_eq_true rfl) dX9_hold_44 (p_X9_refuse hL (by decide)) ?_
        exact go_zreturn (Nat.le_refl _) (Nat.le_refl _) rfl (by decide) dX9_hold_47 h
    · have h := h.2 c8
      refine go_aload_n 0 dX9_hold_22 rfl rfl ?_
      refine go_iconst dX9_hold_23 ?_
      refine go_vIp (M := MX9_refuse) [vI 1] [] mv_X9_111 (hL.1 0 _ rfl) rfl (by decide) ⟨Nat.le_of_ble_eq_true rfl, Nat.le_of_ble_eq_true rfl⟩ ⟨Nat.le_refl _, Nat.le_refl _⟩ rfl rfl (Nat.le_of_ble_eq_true rfl) dX9_hold_24 (p_X9_refuse hL (by decide)) ?_
      exact go_zreturn (Nat.le_refl _) (Nat.le_refl _) rfl (by decide) dX9_hold_27 h
theorem s_X9_let {l : Launch} {E : Ev} {Q : Int → Sh → Dm → Prop} {G : Sh} {D : Dm} (hL : Lay G) {v1 v2 : Int}  (h : ((-2147483648 ≤ v1 ∧ v1 < 2147483648)) ∧ ((v1 ≠ 0 → ((v1 ≠ 1 → Q 0 G (upd2 D 0 11 1)) ∧ (v1 = 1 → ((-2147483648 ≤ v2 ∧ v2 < 2147483648)) ∧ ((¬ ((0 ≤ v2) ∧ (v2 ≤ 99)) → Q 0 G (upd2 D 0 11 1)) ∧ (((0 ≤ v2) ∧ (v2 ≤ 99)) → Q 1 G (upd2 (upd2 D 1 4 v2) 0 11 0)))))) ∧ (v1 = 0 → ((-2147483648 ≤ v2 ∧ v2 < 2147483648)) ∧ ((¬ ((1 ≤ v2) ∧ (v2 ≤ 99)) → ((v1 ≠ 1 → Q 0 G (upd2 D 0 11 1)) ∧ (v1 = 1 → ((¬ ((0 ≤ v2) ∧ (v2 ≤ 99)) → Q 0 G (upd2 D 0 11 1)) ∧ (((0 ≤ v2) ∧ (v2 ≤ 99)) → Q 1 G (upd2 (upd2 D 1 4 v2) 0 11 0)))))) ∧ (((1 ≤ v2) ∧ (v2 ≤ 99)) → Q 1 G (upd2 (upd2 D 1 3 v2) 0 11 0)))))) : Ct l E MX9_let 0 0 0 [vR E 0, vI v1, vI v2] G D Q := by
  refine Ct.of (by decide) (Nat.le_of_ble_eq_true rfl) ?_
  show KX9_let l E Q 0 [(0, vR E 0), (1, vI v1), (2, vI v2)] G D
  obtain ⟨s1, h⟩ := h
  refine go_iload_n 1 dX9_let_0 rfl rfl ?_
  refine go_if_ne 27 dX9_let_1 (by decide) s1 (fun c2 => ?_) (fun c2 => ?_)
  · have h := h.1 c2
    refine go_iload_n 1 dX9_let_27 rfl rfl ?_
    refine go_iconst dX9_let_28 ?_
    refine go_icmp_ne 55 dX9_let_29 (by decide) s1 (by decide) (fun c4 => ?_) (fun c4 => ?_)
    · have h := h.1 c4
      refine go_aload_n 0 dX9_let_55 rfl rfl ?_
      refine go_iconst dX9_let_56 ?_
      refine go_vIp (M := MX9_refuse) [vI 1] [] mv_X9_111 (hL.1 0 _ rfl) rfl (by decide) ⟨Nat.le_of_ble_eq_true rfl, Nat.le_of_ble_eq_true rfl⟩ ⟨Nat.le_refl _, Nat.le_refl _⟩ rfl rfl (Nat.le_of_ble_eq_true rfl) dX9_let_57 (p_X9_refuse hL (by decide)) ?_
      exact go_zreturn (Nat.le_refl _) (Nat.le_refl _) rfl (by decide) dX9_let_60 h
    · have h := h.2 c4
      obtain ⟨s7, h⟩ := h
      refine go_iload_n 2 dX9_let_32 rfl rfl ?_
      refine go_iconst dX9_let_33 ?_
      refine go_bipush dX9_let_34 (by decide) ?_
      refine go_sIp (M := MX9_isWithin) [vI v2, vI 0, vI 99] [] ms_X9_107 ⟨Nat.le_of_ble_eq_true rfl, Nat.le_of_ble_eq_true rfl⟩ ⟨Nat.le_refl _, Nat.le_refl _⟩ rfl rfl (Nat.le_of_ble_eq_true rfl) dX9_let_36 (p_X9_isWithin hL s7 (by decide) (by decide)) ?_
      refine go_ifb_eq 55 dX9_let_39 (by decide) (fun c9 => ?_) (fun c9 => ?_)
      · have h := h.1 c9
        refine go_aload_n 0 dX9_let_55 rfl rfl ?_
        refine go_iconst dX9_let_56 ?_
        refine go_vIp (M := MX9_refuse) [vI 1] [] mv_X9_111 (hL.1 0 _ rfl) rfl (by decide) ⟨Nat.le_of_ble_eq_true rfl, Nat.le_of_ble_eq_true rfl⟩ ⟨Nat.le_refl _, Nat.le_refl _⟩ rfl rfl (Nat.le_of_ble_eq_true rfl) dX9_let_57 (p_X9_refuse hL (by decide)) ?_
        exact go_zreturn (Nat.le_refl _) (Nat.le_refl _) rfl (by decide) dX9_let_60 h
      · have h := h.2 c9
        refine go_aload_n 0 dX9_let_42 rfl rfl ?_
        refine go_getR 0 f_X9_10 rfl (hL.1 0 _ rfl) (hL.2.1 0 0 _ rfl (by decide)) dX9_let_43 ?_
        refine go_iload_n 2 dX9_let_46 rfl rfl ?_
        refine go_putI 4 (i := 4) s7 f_X9_243 rfl (hL.1 1 _ rfl) dX9_let_47 ?_
        refine go_aload_n 0 dX9_let_50 rfl rfl ?_
        refine go_vIp (M := MX9_agree) [] [] mv_X9_118 (hL.1 0 _ rfl) rfl (by decide) ⟨Nat.le_of_ble_eq_true rfl, Nat.le_of_ble_eq_true rfl⟩ ⟨Nat.le_refl _, Nat.le_refl _⟩ rfl rfl (Nat.le_of_ble_eq_true rfl) dX9_let_51 (p_X9_agree hL) ?_
        exact go_zreturn (Nat.le_refl _) (Nat.le_refl _) rfl (by decide) dX9_let_54 h
  · have h := h.2 c2
    obtain ⟨s14, h⟩ := h
    refine go_iload_n 2 dX9_let_4 rfl rfl ?_
    refine go_iconst dX9_let_5 ?_
    refine go_bipush dX9_let_6 (by decide) ?_
    refine go_sIp (M := MX9_isWithin) [vI v2, vI 1, vI 99] [] ms_X9_107 ⟨Nat.le_of_ble_eq_true rfl, Nat.le_of_ble_eq_true rfl⟩ ⟨Nat.le_refl _, Nat.le_refl _⟩ rfl rfl (Nat.le_of_ble_eq_true rfl) dX9_let_8 (p_X9_isWithin hL s14 (by decide) (by decide)) ?_
    refine go_ifb_eq 27 dX9_let_11 (by decide) (fun c16 => ?_) (fun c16 => ?_)
    · have h := h.1 c16
      refine go_iload_n 1 dX9_let_27 rfl rfl ?_
      refine go_iconst dX9_let_28 ?_
      refine go_icmp_ne 55 dX9_let_29 (by decide) s1 (by decide) (fun c18 => ?_) (fun c18 => ?_)
      · have h := h.1 c18
        refine go_aload_n 0 dX9_let_55 rfl rfl ?_
        refine go_iconst dX9_let_56 ?_
        refine go_vIp (M := MX9_refuse) [vI 1] [] mv_X9_111 (hL.1 0 _ rfl) rfl (by decide) ⟨Nat.le_of_ble_eq_true rfl, Nat.le_of_ble_eq_true rfl⟩ ⟨Nat.le_refl _, Nat.le_refl _⟩ rfl rfl (Nat.le_of_ble_eq_true rfl) dX9_let_57 (p_X9_refuse hL (by decide)) ?_
        exact go_zreturn (Nat.le_refl _) (Nat.le_refl _) rfl (by decide) dX9_let_60 h
      · have h := h.2 c18
        refine go_iload_n 2 dX9_let_32 rfl rfl ?_
        refine go_iconst dX9_let_33 ?_
        refine go_bipush dX9_let_34 (by decide) ?_
        refine go_sIp (M := MX9_isWithin) [vI v2, vI 0, vI 99] [] ms_X9_107 ⟨Nat.le_of_ble_eq_true rfl, Nat.le_of_ble_eq_true rfl⟩ ⟨Nat.le_refl _, Nat.le_refl _⟩ rfl rfl (Nat.le_of_ble_eq_true rfl) dX9_let_36 (p_X9_isWithin hL s14 (by decide) (by decide)) ?_
        refine go_ifb_eq 55 dX9_let_39 (by decide) (fun c23 => ?_) (fun c23 => ?_)
        · have h := h.1 c23
          refine go_aload_n 0 dX9_let_55 rfl rfl ?_
          refine go_iconst dX9_let_56 ?_
          refine go_vIp (M := MX9_refuse) [vI 1] [] mv_X9_111 (hL.1 0 _ rfl) rfl (by decide) ⟨Nat.le_of_ble_eq_true rfl, Nat.le_of_ble_eq_true rfl⟩ ⟨Nat.le_refl _, Nat.le_refl _⟩ rfl rfl (Nat.le_of_ble_eq_true rfl) dX9_let_57 (p_X9_refuse hL (by decide)) ?_
          exact go_zreturn (Nat.le_refl _) (Nat.le_refl _) rfl (by decide) dX9_let_60 h
        · have h := h.2 c23
          refine go_aload_n 0 dX9_let_42 rfl rfl ?_
          refine go_getR 0 f_X9_10 rfl (hL.1 0 _ rfl) (hL.2.1 0 0 _ rfl (by decide)) dX9_let_43 ?_
          refine go_iload_n 2 dX9_let_46 rfl rfl ?_
          refine go_putI 4 (i := 4) s14 f_X9_243 rfl (hL.1 1 _ rfl) dX9_let_47 ?_
          refine go_aload_n 0 dX9_let_50 rfl rfl ?_
          refine go_vIp (M := MX9_agree) [] [] mv_X9_118 (hL.1 0 _ rfl) rfl (by decide) ⟨Nat.le_of_ble_eq_true rfl, Nat.le_of_ble_eq_true rfl⟩ ⟨Nat.le_refl _, Nat.le_refl _⟩ rfl rfl (Nat.le_of_ble_eq_true rfl) dX9_let_51 (p_X9_agree hL) ?_
          exact go_zreturn (Nat.le_refl _) (Nat.le_refl _) rfl (by decide) dX9_let_54 h
    · have h := h.2 c16
      refine go_aload_n 0 dX9_let_14 rfl rfl ?_
      refine go_getR 0 f_X9_10 rfl (hL.1 0 _ rfl) (hL.2.1 0 0 _ rfl (by decide)) dX9_let_15 ?_
      refine go_iload_n 2 dX9_let_18 rfl rfl ?_
      refine go_putI 3 (i := 3) s14 f_X9_240 rfl (hL.1 1 _ rfl) dX9_let_19 ?_
      refine go_aload_n 0 dX9_let_22 rfl rfl ?_
      refine go_vIp (M := MX9_agree) [] [] mv_X9_118 (hL.1 0 _ rfl) rfl (by decide) ⟨Nat.le_of_ble_eq_true rfl, Nat.le_of_ble_eq_true rfl⟩ ⟨Nat.le_refl _, Nat.le_refl _⟩ rfl rfl (Nat.le_of_ble_eq_true rfl) dX9_let_23 (p_X9_agree hL) ?_
      exact go_zreturn (Nat.le_refl _) (Nat.le_refl _) rfl (by decide) dX9_let_26 h
theorem s_X9_likely {l : Launch} {E : Ev} {Q : Int → Sh → Dm → Prop} {G : Sh} {D : Dm} (hL : Lay G) {v1 v2 : Int}  (h : ((-2147483648 ≤ v1 ∧ v1 < 2147483648)) ∧ ((¬ ((0 ≤ v1) ∧ (v1 < (D 1 1))) → Q 0 G (upd2 D 0 11 1)) ∧ (((0 ≤ v1) ∧ (v1 < (D 1 1))) → ((-2147483648 ≤ v2 ∧ v2 < 2147483648)) ∧ ((((0 ≤ v2) ∧ (v2 ≤ 16)) → ((0 ≤ v1 ∧ v1 < 6)) ∧ Q 1 G (upd2 (upd2 D 9 v1 v2) 0 11 0)) ∧ (¬ ((0 ≤ v2) ∧ (v2 ≤ 16)) → Q 0 G (upd2 D 0 11 1)))))) : Ct l E MX9_likely 0 0 0 [vR E 0, vI v1, vI v2] G D Q := by
  refine Ct.of (by decide) (Nat.le_of_ble_eq_true rfl) ?_
  show KX9_likely l E Q 0 [(0, vR E 0), (1, vI v1), (2, vI v2)] G D
  obtain ⟨s1, h⟩ := h
  refine go_aload_n 0 dX9_likely_0 rfl rfl ?_
  refine go_getR 0 f_X9_10 rfl (hL.1 0 _ rfl) (hL.2.1 0 0 _ rfl (by decide)) dX9_likely_1 ?_
  refine go_iload_n 1 dX9_likely_4 rfl rfl ?_
  refine go_vIp (M := MX8_hasHarm) [vI v1] [] mv_X9_207 (hL.1 1 _ rfl) rfl (by decide) ⟨Nat.le_of_ble_eq_true rfl, Nat.le_of_ble_eq_true rfl⟩ ⟨Nat.le_refl _, Nat.le_refl _⟩ rfl rfl (Nat.le_of_ble_eq_true rfl) dX9_likely_5 (p_X8_hasHarm hL s1) ?_
  refine go_ifb_eq 21 dX9_likely_8 (by decide) (fun c3 => ?_) (fun c3 => ?_)
  · have h := h.1 c3
    refine go_aload_n 0 dX9_likely_21 rfl rfl ?_
    refine go_iconst dX9_likely_22 ?_
    refine go_vIp (M := MX9_refuse) [vI 1] [] mv_X9_111 (hL.1 0 _ rfl) rfl (by decide) ⟨Nat.le_of_ble_eq_true rfl, Nat.le_of_ble_eq_true rfl⟩ ⟨Nat.le_refl _, Nat.le_refl _⟩ rfl rfl (Nat.le_of_ble_eq_true rfl) dX9_likely_23 (p_X9_refuse hL (by decide)) ?_
    exact go_zreturn (Nat.le_refl _) (Nat.le_refl _) rfl (by decide) dX9_likely_26 h
  · have h := h.2 c3
    obtain ⟨s6, h⟩ := h
    refine go_iload_n 2 dX9_likely_11 rfl rfl ?_
    refine go_iconst dX9_likely_12 ?_
    refine go_bipush dX9_likely_13 (by decide) ?_
    refine go_sIp (M := MX9_isWithin) [vI v2, vI 0, vI 16] [] ms_X9_107 ⟨Nat.le_of_ble_eq_true rfl, Nat.le_of_ble_eq_true rfl⟩ ⟨Nat.le_refl _, Nat.le_refl _⟩ rfl rfl (Nat.le_of_ble_eq_true rfl) dX9_likely_15 (p_X9_isWithin hL s6 (by decide) (by decide)) ?_
    refine go_ifb_ne 27 dX9_likely_18 (by decide) (fun c8 => ?_) (fun c8 => ?_)
    · have h := h.1 c8
      obtain ⟨s9, h⟩ := h
      refine go_aload_n 0 dX9_likely_27 rfl rfl ?_
      refine go_getR 0 f_X9_10 rfl (hL.1 0 _ rfl) (hL.2.1 0 0 _ rfl (by decide)) dX9_likely_28 ?_
      refine go_getR 12 f_X9_216 rfl (hL.1 1 _ rfl) (hL.2.1 1 12 _ rfl (by decide)) dX9_likely_31 ?_
      refine go_iload_n 1 dX9_likely_34 rfl rfl ?_
      refine go_iload_n 2 dX9_likely_35 rfl rfl ?_
      refine go_iastore (hL.1 9 _ rfl) (b := 6) rfl (by decide) s9 s6 dX9_likely_36 ?_
      refine go_aload_n 0 dX9_likely_37 rfl rfl ?_
      refine go_vIp (M := MX9_agree) [] [] mv_X9_118 (hL.1 0 _ rfl) rfl (by decide) ⟨Nat.le_of_ble_eq_true rfl, Nat.le_of_ble_eq_true rfl⟩ ⟨Nat.le_refl _, Nat.le_refl _⟩ rfl rfl (Nat.le_of_ble_eq_true rfl) dX9_likely_38 (p_X9_agree hL) ?_
      exact go_zreturn (Nat.le_refl _) (Nat.le_refl _) rfl (by decide) dX9_likely_41 h
    · have h := h.2 c8
      refine go_aload_n 0 dX9_likely_21 rfl rfl ?_
      refine go_iconst dX9_likely_22 ?_
      refine go_vIp (M := MX9_refuse) [vI 1] [] mv_X9_111 (hL.1 0 _ rfl) rfl (by decide) ⟨Nat.le_of_ble_eq_true rfl, Nat.le_of_ble_eq_true rfl⟩ ⟨Nat.le_refl _, Nat.le_refl _⟩ rfl rfl (Nat.le_of_ble_eq_true rfl) dX9_likely_23 (p_X9_refuse hL (by decide)) ?_
      exact go_zreturn (Nat.le_refl _) (Nat.le_refl _) rfl (by decide) dX9_likely_26 h
theorem s_X9_weight {l : Launch} {E : Ev} {Q : Int → Sh → Dm → Prop} {G : Sh} {D : Dm} (hL : Lay G) {v1 : Int}  (h : ((-2147483648 ≤ v1 ∧ v1 < 2147483648)) ∧ ((((0 ≤ v1) ∧ (v1 < (iSl 1 (D 1 1)))) → C0 l E MX5_weightOf 1 [vR E 42, vI v1, vI (-1), vI 0] G (upd2 D 0 11 0) (fun r6 D6 => Q r6 G D6)) ∧ (¬ ((0 ≤ v1) ∧ (v1 < (iSl 1 (D 1 1)))) → Q (-1) G (upd2 D 0 11 1)))) : Ct l E MX9_weight 1 0 0 [vR E 0, vI v1] G D Q := by
  refine Ct.of (by decide) (Nat.le_of_ble_eq_true rfl) ?_
  show KX9_weight l E Q 0 [(0, vR E 0), (1, vI v1)] G D
  obtain ⟨s1, h⟩ := h
  refine go_aload_n 0 dX9_weight_0 rfl rfl ?_
  refine go_getR 0 f_X9_10 rfl (hL.1 0 _ rfl) (hL.2.1 0 0 _ rfl (by decide)) dX9_weight_1 ?_
  refine go_iload_n 1 dX9_weight_4 rfl rfl ?_
  refine go_vIp (M := MX8_hasLot) [vI v1] [] mv_X9_246 (hL.1 1 _ rfl) rfl (by decide) ⟨Nat.le_of_ble_eq_true rfl, Nat.le_of_ble_eq_true rfl⟩ ⟨Nat.le_refl _, Nat.le_refl _⟩ rfl rfl (Nat.le_of_ble_eq_true rfl) dX9_weight_5 (p_X8_hasLot hL s1) ?_
  refine go_ifb_ne 18 dX9_weight_8 (by decide) (fun c3 => ?_) (fun c3 => ?_)
  · have h := h.1 c3
    refine go_aload_n 0 dX9_weight_18 rfl rfl ?_
    refine go_vIp (M := MX9_agree) [] [] mv_X9_118 (hL.1 0 _ rfl) rfl (by decide) ⟨Nat.le_of_ble_eq_true rfl, Nat.le_of_ble_eq_true rfl⟩ ⟨Nat.le_refl _, Nat.le_refl _⟩ rfl rfl (Nat.le_of_ble_eq_true rfl) dX9_weight_19 (p_X9_agree hL) ?_
    refine go_pop rfl dX9_weight_22 ?_
    refine go_aload_n 0 dX9_weight_23 rfl rfl ?_
    refine go_getR 5 f_X9_43 rfl (hL.1 0 _ rfl) (hL.2.1 0 5 _ rfl (by decide)) dX9_weight_24 ?_
    refine go_iload_n 1 dX9_weight_27 rfl rfl ?_
    refine go_iconst dX9_weight_28 ?_
    refine go_iconst dX9_weight_29 ?_
    refine go_vJ (M := MX5_weightOf) [vI v1, vI (-1), vI 0] [] mv_X9_249 (hL.1 42 _ rfl) rfl (by decide) ⟨Nat.le_of_ble_eq_true rfl, Nat.le_of_ble_eq_true rfl⟩ ⟨Nat.le_refl _, Nat.le_refl _⟩ rfl rfl (Nat.le_of_ble_eq_true rfl) dX9_weight_30 h (fun r6 D6 h => ?_)
    exact go_lreturn (Nat.le_refl _) (Nat.le_refl _) rfl dX9_weight_33 h
  · have h := h.2 c3
    refine go_aload_n 0 dX9_weight_11 rfl rfl ?_
    refine go_iconst dX9_weight_12 ?_
    refine go_vIp (M := MX9_none) [vI 1] [] mv_X9_130 (hL.1 0 _ rfl) rfl (by decide) ⟨Nat.le_of_ble_eq_true rfl, Nat.le_of_ble_eq_true rfl⟩ ⟨Nat.le_refl _, Nat.le_refl _⟩ rfl rfl (Nat.le_of_ble_eq_true rfl) dX9_weight_13 (p_X9_none hL (by decide)) ?_
    refine go_i2l (by decide) dX9_weight_16 ?_
    exact go_lreturn (Nat.le_refl _) (Nat.le_refl _) rfl dX9_weight_17 h
theorem s_X9_left {l : Launch} {E : Ev} {Q : Int → Sh → Dm → Prop} {G : Sh} {D : Dm} (hL : Lay G) {v1 v2 : Int}  (h : ((-2147483648 ≤ v1 ∧ v1 < 2147483648)) ∧ ((¬ ((0 ≤ v1) ∧ (v1 < (D 1 0))) → Q (-1) G (upd2 D 0 11 1)) ∧ (((0 ≤ v1) ∧ (v1 < (D 1 0))) → ((-2147483648 ≤ v2 ∧ v2 < 2147483648)) ∧ ((((0 ≤ v2) ∧ (v2 < (iSl 1 (D 1 1)))) → ((0 ≤ v1 ∧ v1 < 10)) ∧ C0 l E MX5_eighthsKept 0 [vR E 42, vI v1, vI v2] G D (fun r10 D10 => ((-2147483648 ≤ ((D 4 v1) * r10) ∧ ((D 4 v1) * r10) < 2147483648)) ∧ Q (Int.tdiv ((D 4 v1) * r10) 8) G (upd2 D10 0 11 0))) ∧ (¬ ((0 ≤ v2) ∧ (v2 < (iSl 1 (D 1 1)))) → Q (-1) G (upd2 D 0 11 1)))))) : Ct l E MX9_left 0 0 0 [vR E 0, vI v1, vI v2] G D Q := by
  refine Ct.of (by decide) (Nat.le_of_ble_eq_true rfl) ?_
  show KX9_left l E Q 0 [(0, vR E 0), (1, vI v1), (2, vI v2)] G D
  obtain ⟨s1, h⟩ := h
  refine go_aload_n 0 dX9_left_0 rfl rfl ?_
  refine go_getR 0 f_X9_10 rfl (hL.1 0 _ rfl) (hL.2.1 0 0 _ rfl (by decide)) dX9_left_1 ?_
  refine go_iload_n 1 dX9_left_4 rfl rfl ?_
  refine go_vIp (M := MX8_hasStrip) [vI v1] [] mv_X9_189 (hL.1 1 _ rfl) rfl (by decide) ⟨Nat.le_of_ble_eq_true rfl, Nat.le_of_ble_eq_true rfl⟩ ⟨Nat.le_refl _, Nat.le_refl _⟩ rfl rfl (Nat.le_of_ble_eq_true rfl) dX9_left_5 (p_X8_hasStrip hL s1) ?_
  refine go_ifb_eq 22 dX9_left_8 (by decide) (fun c3 => ?_) (fun c3 => ?_)
  · have h := h.1 c3
    refine go_aload_n 0 dX9_left_22 rfl rfl ?_
    refine go_iconst dX9_left_23 ?_
    refine go_vIp (M := MX9_none) [vI 1] [] mv_X9_130 (hL.1 0 _ rfl) rfl (by decide) ⟨Nat.le_of_ble_eq_true rfl, Nat.le_of_ble_eq_true rfl⟩ ⟨Nat.le_refl _, Nat.le_refl _⟩ rfl rfl (Nat.le_of_ble_eq_true rfl) dX9_left_24 (p_X9_none hL (by decide)) ?_
    exact go_ireturn (Nat.le_refl _) (Nat.le_refl _) rfl dX9_left_27 h
  · have h := h.2 c3
    obtain ⟨s6, h⟩ := h
    refine go_aload_n 0 dX9_left_11 rfl rfl ?_
    refine go_getR 0 f_X9_10 rfl (hL.1 0 _ rfl) (hL.2.1 0 0 _ rfl (by decide)) dX9_left_12 ?_
    refine go_iload_n 2 dX9_left_15 rfl rfl ?_
    refine go_vIp (M := MX8_hasLot) [vI v2] [] mv_X9_246 (hL.1 1 _ rfl) rfl (by decide) ⟨Nat.le_of_ble_eq_true rfl, Nat.le_of_ble_eq_true rfl⟩ ⟨Nat.le_refl _, Nat.le_refl _⟩ rfl rfl (Nat.le_of_ble_eq_true rfl) dX9_left_16 (p_X8_hasLot hL s6) ?_
    refine go_ifb_ne 28 dX9_left_19 (by decide) (fun c8 => ?_) (fun c8 => ?_)
    · have h := h.1 c8
      obtain ⟨s9, h⟩ := h
      refine go_aload_n 0 dX9_left_28 rfl rfl ?_
      refine go_aload_n 0 dX9_left_29 rfl rfl ?_
      refine go_getR 0 f_X9_10 rfl (hL.1 0 _ rfl) (hL.2.1 0 0 _ rfl (by decide)) dX9_left_30 ?_
      refine go_getR 7 f_X9_198 rfl (hL.1 1 _ rfl) (hL.2.1 1 7 _ rfl (by decide)) dX9_left_33 ?_
      refine go_iload_n 1 dX9_left_36 rfl rfl ?_
      refine go_iaload (hL.1 4 _ rfl) (b := 10) rfl (by decide) s9 dX9_left_37 ?_
      refine go_aload_n 0 dX9_left_38 rfl rfl ?_
      refine go_getR 5 f_X9_43 rfl (hL.1 0 _ rfl) (hL.2.1 0 5 _ rfl (by decide)) dX9_left_39 ?_
      refine go_iload_n 1 dX9_left_42 rfl rfl ?_
      refine go_iload_n 2 dX9_left_43 rfl rfl ?_
      refine go_vI (M := MX5_eighthsKept) [vI v1, vI v2] [vI (D 4 v1), vR E 0] mv_X9_253 (hL.1 42 _ rfl) rfl (by decide) ⟨Nat.le_of_ble_eq_true rfl, Nat.le_of_ble_eq_true rfl⟩ ⟨Nat.le_refl _, Nat.le_refl _⟩ rfl rfl (Nat.le_of_ble_eq_true rfl) dX9_left_44 h (fun r10 D10 h => ?_)
      obtain ⟨s11, h⟩ := h
      refine go_imul dX9_left_47 ?_
      refine go_bipush dX9_left_48 (by decide) ?_
      refine go_idiv ⟨s11, (by decide)⟩ dX9_left_50 ?_
      refine go_vIp (M := MX9_answer) [vI (Int.tdiv ((D 4 v1) * r10) 8)] [] mv_X9_180 (hL.1 0 _ rfl) rfl (by decide) ⟨Nat.le_of_ble_eq_true rfl, Nat.le_of_ble_eq_true rfl⟩ ⟨Nat.le_refl _, Nat.le_refl _⟩ rfl rfl (Nat.le_of_ble_eq_true rfl) dX9_left_51 (p_X9_answer hL) ?_
      exact go_ireturn (Nat.le_refl _) (Nat.le_refl _) rfl dX9_left_54 h
    · have h := h.2 c8
      refine go_aload_n 0 dX9_left_22 rfl rfl ?_
      refine go_iconst dX9_left_23 ?_
      refine go_vIp (M := MX9_none) [vI 1] [] mv_X9_130 (hL.1 0 _ rfl) rfl (by decide) ⟨Nat.le_of_ble_eq_true rfl, Nat.le_of_ble_eq_true rfl⟩ ⟨Nat.le_refl _, Nat.le_refl _⟩ rfl rfl (Nat.le_of_ble_eq_true rfl) dX9_left_24 (p_X9_none hL (by decide)) ?_
      exact go_ireturn (Nat.le_refl _) (Nat.le_refl _) rfl dX9_left_27 h
theorem s_X9_round {l : Launch} {E : Ev} {mc ms : Nat} {Q : Int → Sh → Dm → Prop} {G : Sh} {D : Dm} (hL : Lay G) {v1 v2 : Int}  (h : ((-2147483648 ≤ v1 ∧ v1 < 2147483648) ∧ (-2147483648 ≤ v2 ∧ v2 < 2147483648)) ∧ (((((0 ≤ v1) ∧ (v1 < (D 1 2))) ∧ ((0 ≤ v2) ∧ (v2 < (iSl 1 (D 1 0))))) → Ct l E MX5_ready 2 mc ms [vR E 42] G D (fun r5 G5 D5 => Lay G5 ∧ C0 l E MX5_roundOf 0 [vR E 42, vI v1, vI v2] G5 D5 (fun r7 D7 => Q r7 G5 (upd2 D7 0 11 0)))) ∧ (¬ (((0 ≤ v1) ∧ (v1 < (D 1 2))) ∧ ((0 ≤ v2) ∧ (v2 < (iSl 1 (D 1 0))))) → Q (-1) G (upd2 D 0 11 1)))) : Ct l E MX9_round 0 mc ms [vR E 0, vI v1, vI v2] G D Q := by
  refine Ct.of (by decide) (Nat.le_of_ble_eq_true rfl) ?_
  show KX9_round l E mc ms 0 0 Q 0 [(0, vR E 0), (1, vI v1), (2, vI v2)] G D
  obtain ⟨s1, h⟩ := h
  refine go_aload_n 0 dX9_round_0 rfl rfl ?_
  refine go_getR 0 f_X9_10 rfl (hL.1 0 _ rfl) (hL.2.1 0 0 _ rfl (by decide)) dX9_round_1 ?_
  refine go_iload_n 1 dX9_round_4 rfl rfl ?_
  refine go_iload_n 2 dX9_round_5 rfl rfl ?_
  refine go_vIp (M := MX8_hasHolding) [vI v1, vI v2] [] mv_X9_256 (hL.1 1 _ rfl) rfl (by decide) ⟨Nat.le_of_ble_eq_true rfl, Nat.le_of_ble_eq_true rfl⟩ ⟨Nat.zero_le _, Nat.zero_le _⟩ rfl rfl (Nat.le_of_ble_eq_true rfl) dX9_round_6 (p_X8_hasHolding hL s1.1 s1.2) ?_
  refine go_ifb_ne 18 dX9_round_9 (by decide) (fun c3 => ?_) (fun c3 => ?_)
  · have h := h.1 c3
    refine go_aload_n 0 dX9_round_18 rfl rfl ?_
    refine go_getR 5 f_X9_43 rfl (hL.1 0 _ rfl) (hL.2.1 0 5 _ rfl (by decide)) dX9_round_19 ?_
    refine go_vM (M := MX5_ready) [] [] mv_X9_260 (hL.1 42 _ rfl) rfl (by decide) ⟨Nat.le_of_ble_eq_true rfl, Nat.le_of_ble_eq_true rfl⟩ ⟨Nat.le_of_eq (Nat.zero_add _), Nat.le_of_eq (Nat.zero_add _)⟩ rfl rfl (Nat.le_of_ble_eq_true rfl) dX9_round_22 h (fun r5 G5 D5 h => ?_)
    obtain ⟨hL5, h⟩ := h
    refine go_aload_n 0 dX9_round_25 rfl rfl ?_
    refine go_aload_n 0 dX9_round_26 rfl rfl ?_
    refine go_getR 5 f_X9_43 rfl (hL5.1 0 _ rfl) (hL5.2.1 0 5 _ rfl (by decide)) dX9_round_27 ?_
    refine go_iload_n 1 dX9_round_30 rfl rfl ?_
    refine go_iload_n 2 dX9_round_31 rfl rfl ?_
    refine go_vI (M := MX5_roundOf) [vI v1, vI v2] [vR E 0] mv_X9_263 (hL5.1 42 _ rfl) rfl (by decide) ⟨Nat.le_of_ble_eq_true rfl, Nat.le_of_ble_eq_true rfl⟩ ⟨Nat.le_of_eq (Nat.zero_add _), Nat.le_of_eq (Nat.zero_add _)⟩ rfl rfl (Nat.le_of_ble_eq_true rfl) dX9_round_32 h (fun r7 D7 h => ?_)
    refine go_vIp (M := MX9_answer) [vI r7] [] mv_X9_180 (hL5.1 0 _ rfl) rfl (by decide) ⟨Nat.le_of_ble_eq_true rfl, Nat.le_of_ble_eq_true rfl⟩ ⟨Nat.le_of_eq (Nat.zero_add _), Nat.le_of_eq (Nat.zero_add _)⟩ rfl rfl (Nat.le_of_ble_eq_true rfl) dX9_round_35 (p_X9_answer hL5) ?_
    exact go_ireturn (Nat.le_of_eq (Nat.zero_add _)) (Nat.le_of_eq (Nat.zero_add _)) rfl dX9_round_38 h
  · have h := h.2 c3
    refine go_aload_n 0 dX9_round_12 rfl rfl ?_
    refine go_iconst dX9_round_13 ?_
    refine go_vIp (M := MX9_none) [vI 1] [] mv_X9_130 (hL.1 0 _ rfl) rfl (by decide) ⟨Nat.le_of_ble_eq_true rfl, Nat.le_of_ble_eq_true rfl⟩ ⟨Nat.zero_le _, Nat.zero_le _⟩ rfl rfl (Nat.le_of_ble_eq_true rfl) dX9_round_14 (p_X9_none hL (by decide)) ?_
    exact go_ireturn (Nat.zero_le _) (Nat.zero_le _) rfl dX9_round_17 h
theorem s_X9_net {l : Launch} {E : Ev} {mc ms : Nat} {Q : Int → Sh → Dm → Prop} {G : Sh} {D : Dm} (hL : Lay G) {v1 v2 v3 : Int}  (h : ((-2147483648 ≤ v1 ∧ v1 < 2147483648) ∧ (-2147483648 ≤ v2 ∧ v2 < 2147483648)) ∧ ((¬ (((0 ≤ v1) ∧ (v1 < (D 1 2))) ∧ ((0 ≤ v2) ∧ (v2 < (iSl 1 (D 1 0))))) → Q (-1) G (upd2 D 0 11 1)) ∧ ((((0 ≤ v1) ∧ (v1 < (D 1 2))) ∧ ((0 ≤ v2) ∧ (v2 < (iSl 1 (D 1 0))))) → ((-2147483648 ≤ v3 ∧ v3 < 2147483648)) ∧ ((((0 ≤ v3) ∧ (v3 < (iSl 1 (D 1 1)))) → Ct l E MX5_ready 2 mc ms [vR E 42] G D (fun r10 G10 D10 => Lay G10 ∧ C0 l E MX5_fillNets 2 [vR E 42, vI v1, vI v2, vI 0] G10 D10 (fun r12 D12 => ((0 ≤ v3 ∧ v3 < 64)) ∧ Q (D12 44 v3) G10 (upd2 D12 0 11 0)))) ∧ (¬ ((0 ≤ v3) ∧ (v3 < (iSl 1 (D 1 1)))) → Q (-1) G (upd2 D 0 11 1)))))) : Ct l E MX9_net 0 mc ms [vR E 0, vI v1, vI v2, vI v3] G D Q := by
  refine Ct.of (by decide) (Nat.le_of_ble_eq_true rfl) ?_
  show KX9_net l E mc ms 0 0 Q 0 [(0, vR E 0), (1, vI v1), (2, vI v2), (3, vI v3)] G D
  obtain ⟨s1, h⟩ := h
  refine go_aload_n 0 dX9_net_0 rfl rfl ?_
  refine go_getR 0 f_X9_10 rfl (hL.1 0 _ rfl) (hL.2.1 0 0 _ rfl (by decide)) dX9_net_1 ?_
  refine go_iload_n 1 dX9_net_4 rfl rfl ?_
  refine go_iload_n 2 dX9_net_5 rfl rfl ?_
  refine go_vIp (M := MX8_hasHolding) [vI v1, vI v2] [] mv_X9_256 (hL.1 1 _ rfl) rfl (by decide) ⟨Nat.le_of_ble_eq_true rfl, Nat.le_of_ble_eq_true rfl⟩ ⟨Nat.zero_le _, Nat.zero_le _⟩ rfl rfl (Nat.le_of_ble_eq_true rfl) dX9_net_6 (p_X8_hasHolding hL s1.1 s1.2) ?_
  refine go_ifb_eq 23 dX9_net_9 (by decide) (fun c3 => ?_) (fun c3 => ?_)
  · have h := h.1 c3
    refine go_aload_n 0 dX9_net_23 rfl rfl ?_
    refine go_iconst dX9_net_24 ?_
    refine go_vIp (M := MX9_none) [vI 1] [] mv_X9_130 (hL.1 0 _ rfl) rfl (by decide) ⟨Nat.le_of_ble_eq_true rfl, Nat.le_of_ble_eq_true rfl⟩ ⟨Nat.zero_le _, Nat.zero_le _⟩ rfl rfl (Nat.le_of_ble_eq_true rfl) dX9_net_25 (p_X9_none hL (by decide)) ?_
    exact go_ireturn (Nat.zero_le _) (Nat.zero_le _) rfl dX9_net_28 h
  · have h := h.2 c3
    obtain ⟨s6, h⟩ := h
    refine go_aload_n 0 dX9_net_12 rfl rfl ?_
    refine go_getR 0 f_X9_10 rfl (hL.1 0 _ rfl) (hL.2.1 0 0 _ rfl (by decide)) dX9_net_13 ?_
    refine go_iload_n 3 dX9_net_16 rfl rfl ?_
    refine go_vIp (M := MX8_hasLot) [vI v3] [] mv_X9_246 (hL.1 1 _ rfl) rfl (by decide) ⟨Nat.le_of_ble_eq_true rfl, Nat.le_of_ble_eq_true rfl⟩ ⟨Nat.zero_le _, Nat.zero_le _⟩ rfl rfl (Nat.le_of_ble_eq_true rfl) dX9_net_17 (p_X8_hasLot hL s6) ?_
    refine go_ifb_ne 29 dX9_net_20 (by decide) (fun c8 => ?_) (fun c8 => ?_)
    · have h := h.1 c8
      refine go_aload_n 0 dX9_net_29 rfl rfl ?_
      refine go_getR 5 f_X9_43 rfl (hL.1 0 _ rfl) (hL.2.1 0 5 _ rfl (by decide)) dX9_net_30 ?_
      refine go_vM (M := MX5_ready) [] [] mv_X9_260 (hL.1 42 _ rfl) rfl (by decide) ⟨Nat.le_of_ble_eq_true rfl, Nat.le_of_ble_eq_true rfl⟩ ⟨Nat.le_of_eq (Nat.zero_add _), Nat.le_of_eq (Nat.zero_add _)⟩ rfl rfl (Nat.le_of_ble_eq_true rfl) dX9_net_33 h (fun r10 G10 D10 h => ?_)
      obtain ⟨hL10, h⟩ := h
      refine go_aload_n 0 dX9_net_36 rfl rfl ?_
      refine go_getR 5 f_X9_43 rfl (hL10.1 0 _ rfl) (hL10.2.1 0 5 _ rfl (by decide)) dX9_net_37 ?_
      refine go_iload_n 1 dX9_net_40 rfl rfl ?_
      refine go_iload_n 2 dX9_net_41 rfl rfl ?_
      refine go_iconst dX9_net_42 ?_
      refine go_vV (M := MX5_fillNets) [vI v1, vI v2, vI 0] [] mv_X9_266 (hL10.1 42 _ rfl) rfl (by decide) ⟨Nat.le_of_ble_eq_true rfl, Nat.le_of_ble_eq_true rfl⟩ ⟨Nat.le_of_eq (Nat.zero_add _), Nat.le_of_eq (Nat.zero_add _)⟩ rfl rfl (Nat.le_of_ble_eq_true rfl) dX9_net_43 h (fun r12 D12 h => ?_)
      obtain ⟨s13, h⟩ := h
      refine go_aload_n 0 dX9_net_46 rfl rfl ?_
      refine go_aload_n 0 dX9_net_47 rfl rfl ?_
      refine go_getR 5 f_X9_43 rfl (hL10.1 0 _ rfl) (hL10.2.1 0 5 _ rfl (by decide)) dX9_net_48 ?_
      refine go_getR 2 f_X9_269 rfl (hL10.1 42 _ rfl) (hL10.2.1 42 2 _ rfl (by decide)) dX9_net_51 ?_
      refine go_iload_n 3 dX9_net_54 rfl rfl ?_
      refine go_iaload (hL10.1 44 _ rfl) (b := 64) rfl (by decide) s13 dX9_net_55 ?_
      refine go_vIp (M := MX9_answer) [vI (D12 44 v3)] [] mv_X9_180 (hL10.1 0 _ rfl) rfl (by decide) ⟨Nat.le_of_ble_eq_true rfl, Nat.le_of_ble_eq_true rfl⟩ ⟨Nat.le_of_eq (Nat.zero_add _), Nat.le_of_eq (Nat.zero_add _)⟩ rfl rfl (Nat.le_of_ble_eq_true rfl) dX9_net_56 (p_X9_answer hL10) ?_
      exact go_ireturn (Nat.le_of_eq (Nat.zero_add _)) (Nat.le_of_eq (Nat.zero_add _)) rfl dX9_net_59 h
    · have h := h.2 c8
      refine go_aload_n 0 dX9_net_23 rfl rfl ?_
      refine go_iconst dX9_net_24 ?_
      refine go_vIp (M := MX9_none) [vI 1] [] mv_X9_130 (hL.1 0 _ rfl) rfl (by decide) ⟨Nat.le_of_ble_eq_true rfl, Nat.le_of_ble_eq_true rfl⟩ ⟨Nat.zero_le _, Nat.zero_le _⟩ rfl rfl (Nat.le_of_ble_eq_true rfl) dX9_net_25 (p_X9_none hL (by decide)) ?_
      exact go_ireturn (Nat.zero_le _) (Nat.zero_le _) rfl dX9_net_28 h
theorem s_X9_commonDivisor {l : Launch} {E : Ev} {Q : Int → Sh → Dm → Prop} {G : Sh} {D : Dm} (hL : Lay G) {v0 v2 : Int}  (h : KX9_commonDivisor l E Q 3 [(0, vJ v0), (2, vJ v2), (4, vI 0)] G D) : Ct l E MX9_commonDivisor 1 0 0 [vJ v0, vJ v2] G D Q := by
  refine Ct.of (by decide) (Nat.le_of_ble_eq_true rfl) ?_
  show KX9_commonDivisor l E Q 0 [(0, vJ v0), (2, vJ v2)] G D
  refine go_iconst dX9_commonDivisor_0 ?_
  refine go_istore [1, 2, 0] (L' := [(0, vJ v0), (2, vJ v2), (4, vI 0)]) dX9_commonDivisor_1 (by decide) rfl ?_
  exact h
theorem s_X9_commonDivisor_3 {l : Launch} {E : Ev} {Q : Int → Sh → Dm → Prop} {G : Sh} {D : Dm} (hL : Lay G) {v0 v2 v4 : Int}  (h : ((-2147483648 ≤ v4 ∧ v4 < 2147483648)) ∧ ((200 ≤ v4 → Q v0 G D) ∧ (v4 < 200 → ((-9223372036854775808 ≤ v2 ∧ v2 < 9223372036854775808)) ∧ ((v2 = 0 → Q v0 G D) ∧ (v2 ≠ 0 → ((-9223372036854775808 ≤ v0 ∧ v0 < 9223372036854775808) ∧ (0 < v2 ∧ v2 < 9223372036854775808)) ∧ KX9_commonDivisor l E Q 3 [(0, vJ v2), (2, vJ (Int.tmod v0 v2)), (4, vI (v4 + 1))] G D))))) : KX9_commonDivisor l E Q 3 [(0, vJ v0), (2, vJ v2), (4, vI v4)] G D := by
  obtain ⟨s1, h⟩ := h
  refine go_iload 2 dX9_commonDivisor_3 rfl ?_
  refine go_sipush dX9_commonDivisor_5 (by decide) ?_
  refine go_icmp_ge 33 dX9_commonDivisor_8 (by decide) s1 (by decide) (fun c2 => ?_) (fun c2 => ?_)
  · have h := h.1 c2
    refine go_lload_n 0 dX9_commonDivisor_33 rfl rfl ?_
    exact go_lreturn (Nat.le_refl _) (Nat.le_refl _) rfl dX9_commonDivisor_34 h
  · have h := h.2 c2
    obtain ⟨s4, h⟩ := h
    refine go_lload_n 1 dX9_commonDivisor_11 rfl rfl ?_
    refine go_lconst (x := 0) dX9_commonDivisor_12 rfl ?_
    refine go_lcmp_eq 33 dX9_commonDivisor_13 dX9_commonDivisor_14 (by decide) s4 (by decide) (fun c5 => ?_) (fun c5 => ?_)
    · have h := h.1 c5
      refine go_lload_n 0 dX9_commonDivisor_33 rfl rfl ?_
      exact go_lreturn (Nat.le_refl _) (Nat.le_refl _) rfl dX9_commonDivisor_34 h
    · have h := h.2 c5
      obtain ⟨s7, h⟩ := h
      refine go_lload_n 0 dX9_commonDivisor_17 rfl rfl ?_
      refine go_lload_n 1 dX9_commonDivisor_18 rfl rfl ?_
      refine go_lrem ⟨s7.1, s7.2⟩ dX9_commonDivisor_19 ?_
      refine go_lstore [1, 2, 3, 0] (L' := [(0, vJ v0), (2, vJ v2), (4, vI v4), (5, vJ (Int.tmod v0 v2))]) dX9_commonDivisor_20 (by decide) rfl ?_
      refine go_lload_n 1 dX9_commonDivisor_22 rfl rfl ?_
      refine go_lstore_n [0, 1, 2, 3] (L' := [(0, vJ v2), (2, vJ v2), (4, vI v4), (5, vJ (Int.tmod v0 v2))]) dX9_commonDivisor_23 rfl (by decide) rfl ?_
      refine go_lload 3 dX9_commonDivisor_24 rfl ?_
      refine go_lstore_n [1, 0, 2, 3] (L' := [(0, vJ v2), (2, vJ (Int.tmod v0 v2)), (4, vI v4), (5, vJ (Int.tmod v0 v2))]) dX9_commonDivisor_26 rfl (by decide) rfl ?_
      refine go_iinc 2 [1, 2, 0, 3] (L' := [(0, vJ v2), (2, vJ (Int.tmod v0 v2)), (4, vI (v4 + 1)), (5, vJ (Int.tmod v0 v2))]) dX9_commonDivisor_27 (by decide) rfl rfl ?_
      refine go_goto 3 dX9_commonDivisor_30 (by decide) ?_
      refine go_sub [0, 1, 2] (L' := [(0, vJ v2), (2, vJ (Int.tmod v0 v2)), (4, vI (v4 + 1))]) rfl ?_
      exact h
theorem s_X9_tell {l : Launch} {E : Ev} {Q : Int → Sh → Dm → Prop} {G : Sh} {D : Dm} (hL : Lay G) {v1 v3 : Int}  (h : ((-9223372036854775808 < v1 ∧ v1 < 9223372036854775808)) ∧ C0 l E MX9_commonDivisor 1 [vJ ((Int.natAbs v1 : Nat) : Int), vJ v3] G D (fun r2 D2 => ((-9223372036854775808 ≤ r2 ∧ r2 < 9223372036854775808)) ∧ ((1 ≤ r2 → ((-9223372036854775808 ≤ v1 ∧ v1 < 9223372036854775808) ∧ (0 < r2 ∧ r2 < 9223372036854775808) ∧ (-9223372036854775808 ≤ (Int.tdiv v1 r2) ∧ (Int.tdiv v1 r2) < 9223372036854775808) ∧ (-9223372036854775808 ≤ v3 ∧ v3 < 9223372036854775808) ∧ (-9223372036854775808 ≤ (Int.tdiv v3 r2) ∧ (Int.tdiv v3 r2) < 9223372036854775808)) ∧ Q 1 G (upd2 (upd2 (upd2 D2 0 12 (Int.tdiv v1 r2)) 0 13 (Int.tdiv v3 r2)) 0 11 0)) ∧ (r2 < 1 → ((-9223372036854775808 ≤ v1 ∧ v1 < 9223372036854775808) ∧ (-9223372036854775808 ≤ (Int.tdiv v1 1) ∧ (Int.tdiv v1 1) < 9223372036854775808) ∧ (-9223372036854775808 ≤ v3 ∧ v3 < 9223372036854775808) ∧ (-9223372036854775808 ≤ (Int.tdiv v3 1) ∧ (Int.tdiv v3 1) < 9223372036854775808)) ∧ Q 1 G (upd2 (upd2 (upd2 D2 0 12 (Int.tdiv v1 1)) 0 13 (Int.tdiv v3 1)) 0 11 0))))) : Ct l E MX9_tell 0 0 0 [vR E 0, vJ v1, vJ v3] G D Q := by
  refine Ct.of (by decide) (Nat.le_of_ble_eq_true rfl) ?_
  show KX9_tell l E Q 0 [(0, vR E 0), (1, vJ v1), (3, vJ v3)] G D
  obtain ⟨s1, h⟩ := h
  refine go_lload_n 1 dX9_tell_0 rfl rfl ?_
  refine go_mabsJ ma_X9_379 s1 ⟨by decide, Nat.le_of_ble_eq_true rfl⟩ ⟨Nat.le_refl _, Nat.le_refl _⟩ dX9_tell_1 ?_
  refine go_lload_n 2 dX9_tell_4 rfl rfl ?_
  refine go_sJ (M := MX9_commonDivisor) [vJ ((Int.natAbs v1 : Nat) : Int), vJ v3] [] ms_X9_385 ⟨Nat.le_of_ble_eq_true rfl, Nat.le_of_ble_eq_true rfl⟩ ⟨Nat.le_refl _, Nat.le_refl _⟩ rfl rfl (Nat.le_of_ble_eq_true rfl) dX9_tell_5 h (fun r2 D2 h => ?_)
  obtain ⟨s3, h⟩ := h
  refine go_lstore [1, 2, 3, 0] (L' := [(0, vR E 0), (1, vJ v1), (3, vJ v3), (5, vJ r2)]) dX9_tell_8 (by decide) rfl ?_
  refine go_lload 3 dX9_tell_10 rfl ?_
  refine go_lconst (x := 1) dX9_tell_12 rfl ?_
  refine go_lcmp_ge 20 dX9_tell_13 dX9_tell_14 (by decide) s3 (by decide) (fun c4 => ?_) (fun c4 => ?_)
  · have h := h.1 c4
    obtain ⟨s5, h⟩ := h
    refine go_aload_n 0 dX9_tell_20 rfl rfl ?_
    refine go_lload_n 1 dX9_tell_21 rfl rfl ?_
    refine go_lload 3 dX9_tell_22 rfl ?_
    refine go_ldiv ⟨s5.1, s5.2.1⟩ dX9_tell_24 ?_
    refine go_putJ 12 (i := 12) s5.2.2.1 f_X9_87 rfl (hL.1 0 _ rfl) dX9_tell_25 ?_
    refine go_aload_n 0 dX9_tell_28 rfl rfl ?_
    refine go_lload_n 2 dX9_tell_29 rfl rfl ?_
    refine go_lload 3 dX9_tell_30 rfl ?_
    refine go_ldiv ⟨s5.2.2.2.1, s5.2.1⟩ dX9_tell_32 ?_
    refine go_putJ 13 (i := 13) s5.2.2.2.2 f_X9_91 rfl (hL.1 0 _ rfl) dX9_tell_33 ?_
    refine go_aload_n 0 dX9_tell_36 rfl rfl ?_
    refine go_vIp (M := MX9_agree) [] [] mv_X9_118 (hL.1 0 _ rfl) rfl (by decide) ⟨Nat.le_of_ble_eq_true rfl, Nat.le_of_ble_eq_true rfl⟩ ⟨Nat.le_refl _, Nat.le_refl _⟩ rfl rfl (Nat.le_of_ble_eq_true rfl) dX9_tell_37 (p_X9_agree hL) ?_
    exact go_zreturn (Nat.le_refl _) (Nat.le_refl _) rfl (by decide) dX9_tell_40 h
  · have h := h.2 c4
    obtain ⟨s7, h⟩ := h
    refine go_lconst (x := 1) dX9_tell_17 rfl ?_
    refine go_lstore [1, 2, 3, 0] (L' := [(0, vR E 0), (1, vJ v1), (3, vJ v3), (5, vJ 1)]) dX9_tell_18 (by decide) rfl ?_
    refine go_aload_n 0 dX9_tell_20 rfl rfl ?_
    refine go_lload_n 1 dX9_tell_21 rfl rfl ?_
    refine go_lload 3 dX9_tell_22 rfl ?_
    refine go_ldiv ⟨s7.1, (by decide)⟩ dX9_tell_24 ?_
    refine go_putJ 12 (i := 12) s7.2.1 f_X9_87 rfl (hL.1 0 _ rfl) dX9_tell_25 ?_
    refine go_aload_n 0 dX9_tell_28 rfl rfl ?_
    refine go_lload_n 2 dX9_tell_29 rfl rfl ?_
    refine go_lload 3 dX9_tell_30 rfl ?_
    refine go_ldiv ⟨s7.2.2.1, (by decide)⟩ dX9_tell_32 ?_
    refine go_putJ 13 (i := 13) s7.2.2.2 f_X9_91 rfl (hL.1 0 _ rfl) dX9_tell_33 ?_
    refine go_aload_n 0 dX9_tell_36 rfl rfl ?_
    refine go_vIp (M := MX9_agree) [] [] mv_X9_118 (hL.1 0 _ rfl) rfl (by decide) ⟨Nat.le_of_ble_eq_true rfl, Nat.le_of_ble_eq_true rfl⟩ ⟨Nat.le_refl _, Nat.le_refl _⟩ rfl rfl (Nat.le_of_ble_eq_true rfl) dX9_tell_37 (p_X9_agree hL) ?_
    exact go_zreturn (Nat.le_refl _) (Nat.le_refl _) rfl (by decide) dX9_tell_40 h
theorem s_X9_odds {l : Launch} {E : Ev} {mc ms : Nat} {Q : Int → Sh → Dm → Prop} {G : Sh} {D : Dm} (hL : Lay G) {v1 v2 v3 : Int}  (h : ((-2147483648 ≤ v1 ∧ v1 < 2147483648) ∧ (-2147483648 ≤ v2 ∧ v2 < 2147483648)) ∧ ((¬ (((0 ≤ v1) ∧ (v1 < (D 1 2))) ∧ ((0 ≤ v2) ∧ (v2 < (iSl 1 (D 1 0))))) → Q 0 G (upd2 D 0 11 1)) ∧ ((((0 ≤ v1) ∧ (v1 < (D 1 2))) ∧ ((0 ≤ v2) ∧ (v2 < (iSl 1 (D 1 0))))) → ((-2147483648 ≤ v3 ∧ v3 < 2147483648)) ∧ ((((0 ≤ v3) ∧ (v3 ≤ 9999)) → Ct l E MX5_ready 2 mc ms [vR E 42] G D (fun r10 G10 D10 => Lay G10 ∧ C0 l E MX5_fillNets 2 [vR E 42, vI v1, vI v2, vI 0] G10 D10 (fun r12 D12 => C0 l E MX5_weightAtMost 1 [vR E 42, vI v3] G10 D12 (fun r14 D14 => C0 l E MX9_tell 0 [vR E 0, vJ r14, vJ (jSl 1 (4 * (D14 1 1)))] G10 D14 (fun r17 D17 => ((r17 = 0 ∨ r17 = 1)) ∧ Q r17 G10 D17))))) ∧ (¬ ((0 ≤ v3) ∧ (v3 ≤ 9999)) → Q 0 G (upd2 D 0 11 1)))))) : Ct l E MX9_odds 0 mc ms [vR E 0, vI v1, vI v2, vI v3] G D Q := by
  refine Ct.of (by decide) (Nat.le_of_ble_eq_true rfl) ?_
  show KX9_odds l E mc ms 0 0 Q 0 [(0, vR E 0), (1, vI v1), (2, vI v2), (3, vI v3)] G D
  obtain ⟨s1, h⟩ := h
  refine go_aload_n 0 dX9_odds_0 rfl rfl ?_
  refine go_getR 0 f_X9_10 rfl (hL.1 0 _ rfl) (hL.2.1 0 0 _ rfl (by decide)) dX9_odds_1 ?_
  refine go_iload_n 1 dX9_odds_4 rfl rfl ?_
  refine go_iload_n 2 dX9_odds_5 rfl rfl ?_
  refine go_vIp (M := MX8_hasHolding) [vI v1, vI v2] [] mv_X9_256 (hL.1 1 _ rfl) rfl (by decide) ⟨Nat.le_of_ble_eq_true rfl, Nat.le_of_ble_eq_true rfl⟩ ⟨Nat.zero_le _, Nat.zero_le _⟩ rfl rfl (Nat.le_of_ble_eq_true rfl) dX9_odds_6 (p_X8_hasHolding hL s1.1 s1.2) ?_
  refine go_ifb_eq 23 dX9_odds_9 (by decide) (fun c3 => ?_) (fun c3 => ?_)
  · have h := h.1 c3
    refine go_aload_n 0 dX9_odds_23 rfl rfl ?_
    refine go_iconst dX9_odds_24 ?_
    refine go_vIp (M := MX9_refuse) [vI 1] [] mv_X9_111 (hL.1 0 _ rfl) rfl (by decide) ⟨Nat.le_of_ble_eq_true rfl, Nat.le_of_ble_eq_true rfl⟩ ⟨Nat.zero_le _, Nat.zero_le _⟩ rfl rfl (Nat.le_of_ble_eq_true rfl) dX9_odds_25 (p_X9_refuse hL (by decide)) ?_
    exact go_zreturn (Nat.zero_le _) (Nat.zero_le _) rfl (by decide) dX9_odds_28 h
  · have h := h.2 c3
    obtain ⟨s6, h⟩ := h
    refine go_iload_n 3 dX9_odds_12 rfl rfl ?_
    refine go_iconst dX9_odds_13 ?_
    refine go_sipush dX9_odds_14 (by decide) ?_
    refine go_sIp (M := MX9_isWithin) [vI v3, vI 0, vI 9999] [] ms_X9_107 ⟨Nat.le_of_ble_eq_true rfl, Nat.le_of_ble_eq_true rfl⟩ ⟨Nat.zero_le _, Nat.zero_le _⟩ rfl rfl (Nat.le_of_ble_eq_true rfl) dX9_odds_17 (p_X9_isWithin hL s6 (by decide) (by decide)) ?_
    refine go_ifb_ne 29 dX9_odds_20 (by decide) (fun c8 => ?_) (fun c8 => ?_)
    · have h := h.1 c8
      refine go_aload_n 0 dX9_odds_29 rfl rfl ?_
      refine go_getR 5 f_X9_43 rfl (hL.1 0 _ rfl) (hL.2.1 0 5 _ rfl (by decide)) dX9_odds_30 ?_
      refine go_vM (M := MX5_ready) [] [] mv_X9_260 (hL.1 42 _ rfl) rfl (by decide) ⟨Nat.le_of_ble_eq_true rfl, Nat.le_of_ble_eq_true rfl⟩ ⟨Nat.le_of_eq (Nat.zero_add _), Nat.le_of_eq (Nat.zero_add _)⟩ rfl rfl (Nat.le_of_ble_eq_true rfl) dX9_odds_33 h (fun r10 G10 D10 h => ?_)
      obtain ⟨hL10, h⟩ := h
      refine go_aload_n 0 dX9_odds_36 rfl rfl ?_
      refine go_getR 5 f_X9_43 rfl (hL10.1 0 _ rfl) (hL10.2.1 0 5 _ rfl (by decide)) dX9_odds_37 ?_
      refine go_iload_n 1 dX9_odds_40 rfl rfl ?_
      refine go_iload_n 2 dX9_odds_41 rfl rfl ?_
      refine go_iconst dX9_odds_42 ?_
      refine go_vV (M := MX5_fillNets) [vI v1, vI v2, vI 0] [] mv_X9_266 (hL10.1 42 _ rfl) rfl (by decide) ⟨Nat.le_of_ble_eq_true rfl, Nat.le_of_ble_eq_true rfl⟩ ⟨Nat.le_of_eq (Nat.zero_add _), Nat.le_of_eq (Nat.zero_add _)⟩ rfl rfl (Nat.le_of_ble_eq_true rfl) dX9_odds_43 h (fun r12 D12 h => ?_)
      refine go_aload_n 0 dX9_odds_46 rfl rfl ?_
      refine go_aload_n 0 dX9_odds_47 rfl rfl ?_
      refine go_getR 5 f_X9_43 rfl (hL10.1 0 _ rfl) (hL10.2.1 0 5 _ rfl (by decide)) dX9_odds_48 ?_
      refine go_iload_n 3 dX9_odds_51 rfl rfl ?_
      refine go_vJ (M := MX5_weightAtMost) [vI v3] [vR E 0] mv_X9_272 (hL10.1 42 _ rfl) rfl (by decide) ⟨Nat.le_of_ble_eq_true rfl, Nat.le_of_ble_eq_true rfl⟩ ⟨Nat.le_of_eq (Nat.zero_add _), Nat.le_of_eq (Nat.zero_add _)⟩ rfl rfl (Nat.le_of_ble_eq_true rfl) dX9_odds_52 h (fun r14 D14 h => ?_)
      refine go_aload_n 0 dX9_odds_55 rfl rfl ?_
      refine go_getR 5 f_X9_43 rfl (hL10.1 0 _ rfl) (hL10.2.1 0 5 _ rfl (by decide)) dX9_odds_56 ?_
      refine go_vJp (M := MX5_wholeWeight) [] [vJ r14, vR E 0] mv_X9_276 (hL10.1 42 _ rfl) rfl (by decide) ⟨Nat.le_of_ble_eq_true rfl, Nat.le_of_ble_eq_true rfl⟩ ⟨Nat.le_of_eq (Nat.zero_add _), Nat.le_of_eq (Nat.zero_add _)⟩ rfl rfl (Nat.le_of_ble_eq_true rfl) dX9_odds_59 (p_X5_wholeWeight hL10) ?_
      refine go_vI (M := MX9_tell) [vJ r14, vJ (jSl 1 (4 * (D14 1 1)))] [] mv_X9_280 (hL10.1 0 _ rfl) rfl (by decide) ⟨Nat.le_of_ble_eq_true rfl, Nat.le_of_ble_eq_true rfl⟩ ⟨Nat.le_of_eq (Nat.zero_add _), Nat.le_of_eq (Nat.zero_add _)⟩ rfl rfl (Nat.le_of_ble_eq_true rfl) dX9_odds_62 h (fun r17 D17 h => ?_)
      obtain ⟨s18, h⟩ := h
      exact go_zreturn (Nat.le_of_eq (Nat.zero_add _)) (Nat.le_of_eq (Nat.zero_add _)) rfl s18 dX9_odds_65 h
    · have h := h.2 c8
      refine go_aload_n 0 dX9_odds_23 rfl rfl ?_
      refine go_iconst dX9_odds_24 ?_
      refine go_vIp (M := MX9_refuse) [vI 1] [] mv_X9_111 (hL.1 0 _ rfl) rfl (by decide) ⟨Nat.le_of_ble_eq_true rfl, Nat.le_of_ble_eq_true rfl⟩ ⟨Nat.zero_le _, Nat.zero_le _⟩ rfl rfl (Nat.le_of_ble_eq_true rfl) dX9_odds_25 (p_X9_refuse hL (by decide)) ?_
      exact go_zreturn (Nat.zero_le _) (Nat.zero_le _) rfl (by decide) dX9_odds_28 h
theorem s_X9_hungry {l : Launch} {E : Ev} {mc ms : Nat} {Q : Int → Sh → Dm → Prop} {G : Sh} {D : Dm} (hL : Lay G) {v1 v2 : Int}  (h : ((-2147483648 ≤ v1 ∧ v1 < 2147483648) ∧ (-2147483648 ≤ v2 ∧ v2 < 2147483648)) ∧ (((((0 ≤ v1) ∧ (v1 < (D 1 2))) ∧ ((0 ≤ v2) ∧ (v2 < (iSl 1 (D 1 0))))) → Ct l E MX5_ready 2 mc ms [vR E 42] G D (fun r5 G5 D5 => Lay G5 ∧ C0 l E MX5_fillNets 2 [vR E 42, vI v1, vI v2, vI 0] G5 D5 (fun r7 D7 => ((0 ≤ v1 ∧ v1 < 4)) ∧ C0 l E MX5_weightAtMost 1 [vR E 42, vI ((D7 13 v1) - 1)] G5 D7 (fun r9 D9 => C0 l E MX9_tell 0 [vR E 0, vJ r9, vJ (jSl 1 (4 * (D9 1 1)))] G5 D9 (fun r12 D12 => ((r12 = 0 ∨ r12 = 1)) ∧ Q r12 G5 D12))))) ∧ (¬ (((0 ≤ v1) ∧ (v1 < (D 1 2))) ∧ ((0 ≤ v2) ∧ (v2 < (iSl 1 (D 1 0))))) → Q 0 G (upd2 D 0 11 1)))) : Ct l E MX9_hungry 0 mc ms [vR E 0, vI v1, vI v2] G D Q := by
  refine Ct.of (by decide) (Nat.le_of_ble_eq_true rfl) ?_
  show KX9_hungry l E mc ms 0 0 Q 0 [(0, vR E 0), (1, vI v1), (2, vI v2)] G D
  obtain ⟨s1, h⟩ := h
  refine go_aload_n 0 dX9_hungry_0 rfl rfl ?_
  refine go_getR 0 f_X9_10 rfl (hL.1 0 _ rfl) (hL.2.1 0 0 _ rfl (by decide)) dX9_hungry_1 ?_
  refine go_iload_n 1 dX9_hungry_4 rfl rfl ?_
  refine go_iload_n 2 dX9_hungry_5 rfl rfl ?_
  refine go_vIp (M := MX8_hasHolding) [vI v1, vI v2] [] mv_X9_256 (hL.1 1 _ rfl) rfl (by decide) ⟨Nat.le_of_ble_eq_true rfl, Nat.le_of_ble_eq_true rfl⟩ ⟨Nat.zero_le _, Nat.zero_le _⟩ rfl rfl (Nat.le_of_ble_eq_true rfl) dX9_hungry_6 (p_X8_hasHolding hL s1.1 s1.2) ?_
  refine go_ifb_ne 18 dX9_hungry_9 (by decide) (fun c3 => ?_) (fun c3 => ?_)
  · have h := h.1 c3
    refine go_aload_n 0 dX9_hungry_18 rfl rfl ?_
    refine go_getR 5 f_X9_43 rfl (hL.1 0 _ rfl) (hL.2.1 0 5 _ rfl (by decide)) dX9_hungry_19 ?_
    refine go_vM (M := MX5_ready) [] [] mv_X9_260 (hL.1 42 _ rfl) rfl (by decide) ⟨Nat.le_of_ble_eq_true rfl, Nat.le_of_ble_eq_true rfl⟩ ⟨Nat.le_of_eq (Nat.zero_add _), Nat.le_of_eq (Nat.zero_add _)⟩ rfl rfl (Nat.le_of_ble_eq_true rfl) dX9_hungry_22 h (fun r5 G5 D5 h => ?_)
    obtain ⟨hL5, h⟩ := h
    refine go_aload_n 0 dX9_hungry_25 rfl rfl ?_
    refine go_getR 5 f_X9_43 rfl (hL5.1 0 _ rfl) (hL5.2.1 0 5 _ rfl (by decide)) dX9_hungry_26 ?_
    refine go_iload_n 1 dX9_hungry_29 rfl rfl ?_
    refine go_iload_n 2 dX9_hungry_30 rfl rfl ?_
    refine go_iconst dX9_hungry_31 ?_
    refine go_vV (M := MX5_fillNets) [vI v1, vI v2, vI 0] [] mv_X9_266 (hL5.1 42 _ rfl) rfl (by decide) ⟨Nat.le_of_ble_eq_true rfl, Nat.le_of_ble_eq_true rfl⟩ ⟨Nat.le_of_eq (Nat.zero_add _), Nat.le_of_eq (Nat.zero_add _)⟩ rfl rfl (Nat.le_of_ble_eq_true rfl) dX9_hungry_32 h (fun r7 D7 h => ?_)
    obtain ⟨s8, h⟩ := h
    refine go_aload_n 0 dX9_hungry_35 rfl rfl ?_
    refine go_aload_n 0 dX9_hungry_36 rfl rfl ?_
    refine go_getR 5 f_X9_43 rfl (hL5.1 0 _ rfl) (hL5.2.1 0 5 _ rfl (by decide)) dX9_hungry_37 ?_
    refine go_aload_n 0 dX9_hungry_40 rfl rfl ?_
    refine go_getR 0 f_X9_10 rfl (hL5.1 0 _ rfl) (hL5.2.1 0 0 _ rfl (by decide)) dX9_hungry_41 ?_
    refine go_getR 16 f_X9_231 rfl (hL5.1 1 _ rfl) (hL5.2.1 1 16 _ rfl (by decide)) dX9_hungry_44 ?_
    refine go_iload_n 1 dX9_hungry_47 rfl rfl ?_
    refine go_iaload (hL5.1 13 _ rfl) (b := 4) rfl (by decide) s8 dX9_hungry_48 ?_
    refine go_iconst dX9_hungry_49 ?_
    refine go_isub dX9_hungry_50 ?_
    refine go_vJ (M := MX5_weightAtMost) [vI ((D7 13 v1) - 1)] [vR E 0] mv_X9_272 (hL5.1 42 _ rfl) rfl (by decide) ⟨Nat.le_of_ble_eq_true rfl, Nat.le_of_ble_eq_true rfl⟩ ⟨Nat.le_of_eq (Nat.zero_add _), Nat.le_of_eq (Nat.zero_add _)⟩ rfl rfl (Nat.le_of_ble_eq_true rfl) dX9_hungry_51 h (fun r9 D9 h => ?_)
    refine go_aload_n 0 dX9_hungry_54 rfl rfl ?_
    refine go_getR 5 f_X9_43 rfl (hL5.1 0 _ rfl) (hL5.2.1 0 5 _ rfl (by decide)) dX9_hungry_55 ?_
    refine go_vJp (M := MX5_wholeWeight) [] [vJ r9, vR E 0] mv_X9_276 (hL5.1 42 _ rfl) rfl (by decide) ⟨Nat.le_of_ble_eq_true rfl, Nat.le_of_ble_eq_true rfl⟩ ⟨Nat.le_of_eq (Nat.zero_add _), Nat.le_of_eq (Nat.zero_add _)⟩ rfl rfl (Nat.le_of_ble_eq_true rfl) dX9_hungry_58 (p_X5_wholeWeight hL5) ?_
    refine go_vI (M := MX9_tell) [vJ r9, vJ (jSl 1 (4 * (D9 1 1)))] [] mv_X9_280 (hL5.1 0 _ rfl) rfl (by decide) ⟨Nat.le_of_ble_eq_true rfl, Nat.le_of_ble_eq_true rfl⟩ ⟨Nat.le_of_eq (Nat.zero_add _), Nat.le_of_eq (Nat.zero_add _)⟩ rfl rfl (Nat.le_of_ble_eq_true rfl) dX9_hungry_61 h (fun r12 D12 h => ?_)
    obtain ⟨s13, h⟩ := h
    exact go_zreturn (Nat.le_of_eq (Nat.zero_add _)) (Nat.le_of_eq (Nat.zero_add _)) rfl s13 dX9_hungry_64 h
  · have h := h.2 c3
    refine go_aload_n 0 dX9_hungry_12 rfl rfl ?_
    refine go_iconst dX9_hungry_13 ?_
    refine go_vIp (M := MX9_refuse) [vI 1] [] mv_X9_111 (hL.1 0 _ rfl) rfl (by decide) ⟨Nat.le_of_ble_eq_true rfl, Nat.le_of_ble_eq_true rfl⟩ ⟨Nat.zero_le _, Nat.zero_le _⟩ rfl rfl (Nat.le_of_ble_eq_true rfl) dX9_hungry_14 (p_X9_refuse hL (by decide)) ?_
    exact go_zreturn (Nat.zero_le _) (Nat.zero_le _) rfl (by decide) dX9_hungry_17 h
theorem s_X9_worth {l : Launch} {E : Ev} {mc ms : Nat} {Q : Int → Sh → Dm → Prop} {G : Sh} {D : Dm} (hL : Lay G) {v1 v2 : Int}  (h : ((-2147483648 ≤ v1 ∧ v1 < 2147483648) ∧ (-2147483648 ≤ v2 ∧ v2 < 2147483648)) ∧ (((((0 ≤ v1) ∧ (v1 < (D 1 2))) ∧ ((0 ≤ v2) ∧ (v2 < (iSl 1 (D 1 0))))) → Ct l E MX5_ready 2 mc ms [vR E 42] G D (fun r5 G5 D5 => Lay G5 ∧ C0 l E MX5_worthOf 1 [vR E 42, vI v1, vI v2] G5 D5 (fun r7 D7 => C0 l E MX9_tell 0 [vR E 0, vJ r7, vJ (jSl 1 (4 * (D7 1 1)))] G5 D7 (fun r10 D10 => ((r10 = 0 ∨ r10 = 1)) ∧ Q r10 G5 D10)))) ∧ (¬ (((0 ≤ v1) ∧ (v1 < (D 1 2))) ∧ ((0 ≤ v2) ∧ (v2 < (iSl 1 (D 1 0))))) → Q 0 G (upd2 D 0 11 1)))) : Ct l E MX9_worth 0 mc ms [vR E 0, vI v1, vI v2] G D Q := by
  refine Ct.of (by decide) (Nat.le_of_ble_eq_true rfl) ?_
  show KX9_worth l E mc ms 0 0 Q 0 [(0, vR E 0), (1, vI v1), (2, vI v2)] G D
  obtain ⟨s1, h⟩ := h
  refine go_aload_n 0 dX9_worth_0 rfl rfl ?_
  refine go_getR 0 f_X9_10 rfl (hL.1 0 _ rfl) (hL.2.1 0 0 _ rfl (by decide)) dX9_worth_1 ?_
  refine go_iload_n 1 dX9_worth_4 rfl rfl ?_
  refine go_iload_n 2 dX9_worth_5 rfl rfl ?_
  refine go_vIp (M := MX8_hasHolding) [vI v1, vI v2] [] mv_X9_256 (hL.1 1 _ rfl) rfl (by decide) ⟨Nat.le_of_ble_eq_true rfl, Nat.le_of_ble_eq_true rfl⟩ ⟨Nat.zero_le _, Nat.zero_le _⟩ rfl rfl (Nat.le_of_ble_eq_true rfl) dX9_worth_6 (p_X8_hasHolding hL s1.1 s1.2) ?_
  refine go_ifb_ne 18 dX9_worth_9 (by decide) (fun c3 => ?_) (fun c3 => ?_)
  · have h := h.1 c3
    refine go_aload_n 0 dX9_worth_18 rfl rfl ?_
    refine go_getR 5 f_X9_43 rfl (hL.1 0 _ rfl) (hL.2.1 0 5 _ rfl (by decide)) dX9_worth_19 ?_
    refine go_vM (M := MX5_ready) [] [] mv_X9_260 (hL.1 42 _ rfl) rfl (by decide) ⟨Nat.le_of_ble_eq_true rfl, Nat.le_of_ble_eq_true rfl⟩ ⟨Nat.le_of_eq (Nat.zero_add _), Nat.le_of_eq (Nat.zero_add _)⟩ rfl rfl (Nat.le_of_ble_eq_true rfl) dX9_worth_22 h (fun r5 G5 D5 h => ?_)
    obtain ⟨hL5, h⟩ := h
    refine go_aload_n 0 dX9_worth_25 rfl rfl ?_
    refine go_aload_n 0 dX9_worth_26 rfl rfl ?_
    refine go_getR 5 f_X9_43 rfl (hL5.1 0 _ rfl) (hL5.2.1 0 5 _ rfl (by decide)) dX9_worth_27 ?_
    refine go_iload_n 1 dX9_worth_30 rfl rfl ?_
    refine go_iload_n 2 dX9_worth_31 rfl rfl ?_
    refine go_vJ (M := MX5_worthOf) [vI v1, vI v2] [vR E 0] mv_X9_284 (hL5.1 42 _ rfl) rfl (by decide) ⟨Nat.le_of_ble_eq_true rfl, Nat.le_of_ble_eq_true rfl⟩ ⟨Nat.le_of_eq (Nat.zero_add _), Nat.le_of_eq (Nat.zero_add _)⟩ rfl rfl (Nat.le_of_ble_eq_true rfl) dX9_worth_32 h (fun r7 D7 h => ?_)
    refine go_aload_n 0 dX9_worth_35 rfl rfl ?_
    refine go_getR 5 f_X9_43 rfl (hL5.1 0 _ rfl) (hL5.2.1 0 5 _ rfl (by decide)) dX9_worth_36 ?_
    refine go_vJp (M := MX5_wholeWeight) [] [vJ r7, vR E 0] mv_X9_276 (hL5.1 42 _ rfl) rfl (by decide) ⟨Nat.le_of_ble_eq_true rfl, Nat.le_of_ble_eq_true rfl⟩ ⟨Nat.le_of_eq (Nat.zero_add _), Nat.le_of_eq (Nat.zero_add _)⟩ rfl rfl (Nat.le_of_ble_eq_true rfl) dX9_worth_39 (p_X5_wholeWeight hL5) ?_
    refine go_vI (M := MX9_tell) [vJ r7, vJ (jSl 1 (4 * (D7 1 1)))] [] mv_X9_280 (hL5.1 0 _ rfl) rfl (by decide) ⟨Nat.le_of_ble_eq_true rfl, Nat.le_of_ble_eq_true rfl⟩ ⟨Nat.le_of_eq (Nat.zero_add _), Nat.le_of_eq (Nat.zero_add _)⟩ rfl rfl (Nat.le_of_ble_eq_true rfl) dX9_worth_42 h (fun r10 D10 h => ?_)
    obtain ⟨s11, h⟩ := h
    exact go_zreturn (Nat.le_of_eq (Nat.zero_add _)) (Nat.le_of_eq (Nat.zero_add _)) rfl s11 dX9_worth_45 h
  · have h := h.2 c3
    refine go_aload_n 0 dX9_worth_12 rfl rfl ?_
    refine go_iconst dX9_worth_13 ?_
    refine go_vIp (M := MX9_refuse) [vI 1] [] mv_X9_111 (hL.1 0 _ rfl) rfl (by decide) ⟨Nat.le_of_ble_eq_true rfl, Nat.le_of_ble_eq_true rfl⟩ ⟨Nat.zero_le _, Nat.zero_le _⟩ rfl rfl (Nat.le_of_ble_eq_true rfl) dX9_worth_14 (p_X9_refuse hL (by decide)) ?_
    exact go_zreturn (Nat.zero_le _) (Nat.zero_le _) rfl (by decide) dX9_worth_17 h
theorem s_X9_whyNoBest {l : Launch} {E : Ev} {Q : Int → Sh → Dm → Prop} {G : Sh} {D : Dm} (hL : Lay G) {v1 v2 : Int}  (h : ((-2147483648 ≤ v1 ∧ v1 < 2147483648)) ∧ ((¬ ((0 ≤ v1) ∧ (v1 < (D 1 2))) → Q 1 G D) ∧ (((0 ≤ v1) ∧ (v1 < (D 1 2))) → ((-2147483648 ≤ v2 ∧ v2 < 2147483648)) ∧ ((((1 ≤ v2) ∧ (v2 ≤ 6)) → C0 l E MX8_openTo 0 [vR E 1, vI v1] G D (fun r9 D9 => C0 l E MJ6_bitCount_0f7a4 0 [vI r9] G D9 (fun r11 D11 => ((-2147483648 ≤ r11 ∧ r11 < 2147483648)) ∧ ((v2 ≤ r11 → Q 0 G D11) ∧ (r11 < v2 → Q 6 G D11))))) ∧ (¬ ((1 ≤ v2) ∧ (v2 ≤ 6)) → Q 1 G D))))) : Ct l E MX9_whyNoBest 0 0 0 [vR E 0, vI v1, vI v2] G D Q := by
  refine Ct.of (by decide) (Nat.le_of_ble_eq_true rfl) ?_
  show KX9_whyNoBest l E Q 0 [(0, vR E 0), (1, vI v1), (2, vI v2)] G D
  obtain ⟨s1, h⟩ := h
  refine go_aload_n 0 dX9_whyNoBest_0 rfl rfl ?_
  refine go_getR 0 f_X9_10 rfl (hL.1 0 _ rfl) (hL.2.1 0 0 _ rfl (by decide)) dX9_whyNoBest_1 ?_
  refine go_iload_n 1 dX9_whyNoBest_4 rfl rfl ?_
  refine go_vIp (M := MX8_hasFamily) [vI v1] [] mv_X9_222 (hL.1 1 _ rfl) rfl (by decide) ⟨Nat.le_of_ble_eq_true rfl, Nat.le_of_ble_eq_true rfl⟩ ⟨Nat.le_refl _, Nat.le_refl _⟩ rfl rfl (Nat.le_of_ble_eq_true rfl) dX9_whyNoBest_5 (p_X8_hasFamily hL s1) ?_
  refine go_ifb_eq 21 dX9_whyNoBest_8 (by decide) (fun c3 => ?_) (fun c3 => ?_)
  · have h := h.1 c3
    refine go_iconst dX9_whyNoBest_21 ?_
    exact go_ireturn (Nat.le_refl _) (Nat.le_refl _) rfl dX9_whyNoBest_22 h
  · have h := h.2 c3
    obtain ⟨s5, h⟩ := h
    refine go_iload_n 2 dX9_whyNoBest_11 rfl rfl ?_
    refine go_iconst dX9_whyNoBest_12 ?_
    refine go_bipush dX9_whyNoBest_13 (by decide) ?_
    refine go_sIp (M := MX9_isWithin) [vI v2, vI 1, vI 6] [] ms_X9_107 ⟨Nat.le_of_ble_eq_true rfl, Nat.le_of_ble_eq_true rfl⟩ ⟨Nat.le_refl _, Nat.le_refl _⟩ rfl rfl (Nat.le_of_ble_eq_true rfl) dX9_whyNoBest_15 (p_X9_isWithin hL s5 (by decide) (by decide)) ?_
    refine go_ifb_ne 23 dX9_whyNoBest_18 (by decide) (fun c7 => ?_) (fun c7 => ?_)
    · have h := h.1 c7
      refine go_aload_n 0 dX9_whyNoBest_23 rfl rfl ?_
      refine go_getR 0 f_X9_10 rfl (hL.1 0 _ rfl) (hL.2.1 0 0 _ rfl (by decide)) dX9_whyNoBest_24 ?_
      refine go_iload_n 1 dX9_whyNoBest_27 rfl rfl ?_
      refine go_vI (M := MX8_openTo) [vI v1] [] mv_X9_392 (hL.1 1 _ rfl) rfl (by decide) ⟨Nat.le_of_ble_eq_true rfl, Nat.le_of_ble_eq_true rfl⟩ ⟨Nat.le_refl _, Nat.le_refl _⟩ rfl rfl (Nat.le_of_ble_eq_true rfl) dX9_whyNoBest_28 h (fun r9 D9 h => ?_)
      refine go_sI (M := MJ6_bitCount_0f7a4) [vI r9] [] ms_X9_395 ⟨Nat.le_of_ble_eq_true rfl, Nat.le_of_ble_eq_true rfl⟩ ⟨Nat.le_refl _, Nat.le_refl _⟩ rfl rfl (Nat.le_of_ble_eq_true rfl) dX9_whyNoBest_31 h (fun r11 D11 h => ?_)
      obtain ⟨s12, h⟩ := h
      refine go_iload_n 2 dX9_whyNoBest_34 rfl rfl ?_
      refine go_icmp_ge 43 dX9_whyNoBest_35 (by decide) s12 s5 (fun c13 => ?_) (fun c13 => ?_)
      · have h := h.1 c13
        refine go_iconst dX9_whyNoBest_43 ?_
        exact go_ireturn (Nat.le_refl _) (Nat.le_refl _) rfl dX9_whyNoBest_44 h
      · have h := h.2 c13
        refine go_bipush dX9_whyNoBest_38 (by decide) ?_
        refine go_goto 44 dX9_whyNoBest_40 (by decide) ?_
        exact go_ireturn (Nat.le_refl _) (Nat.le_refl _) rfl dX9_whyNoBest_44 h
    · have h := h.2 c7
      refine go_iconst dX9_whyNoBest_21 ?_
      exact go_ireturn (Nat.le_refl _) (Nat.le_refl _) rfl dX9_whyNoBest_22 h
theorem s_X9_best {l : Launch} {E : Ev} {mc ms : Nat} {Q : Int → Sh → Dm → Prop} {G : Sh} {D : Dm} (hL : Lay G) {v1 v2 : Int}  (h : C0 l E MX9_whyNoBest 0 [vR E 0, vI v1, vI v2] G D (fun r2 D2 => ((-2147483648 ≤ r2 ∧ r2 < 2147483648)) ∧ ((r2 = 0 → Ct l E MX5_ready 2 mc ms [vR E 42] G D2 (fun r6 G6 D6 => Lay G6 ∧ C0 l E MX1_listSets 2 [vR E 49, vI v1, vI v2] G6 D6 (fun r8 D8 => C0 l E MX1_bestIndex 0 [vR E 49, vI (D8 1 4)] G6 D8 (fun r10 D10 => ((0 ≤ r10 ∧ r10 < 252)) ∧ C0 l E MX9_tell 0 [vR E 0, vJ ((D10 51 r10) - ((D10 1 4) * (D10 52 r10))), vJ (jSl 1 (4 * (D10 1 1)))] G6 D10 (fun r15 D15 => Q (D15 50 r10) G6 D15))))) ∧ (r2 ≠ 0 → Q (-1) G (upd2 D2 0 11 r2))))) : Ct l E MX9_best 0 mc ms [vR E 0, vI v1, vI v2] G D Q := by
  refine Ct.of (by decide) (Nat.le_of_ble_eq_true rfl) ?_
  show KX9_best l E mc ms 0 0 Q 0 [(0, vR E 0), (1, vI v1), (2, vI v2)] G D
  refine go_aload_n 0 dX9_best_0 rfl rfl ?_
  refine go_iload_n 1 dX9_best_1 rfl rfl ?_
  refine go_iload_n 2 dX9_best_2 rfl rfl ?_
  refine go_vI (M := MX9_whyNoBest) [vI v1, vI v2] [] mv_X9_288 (hL.1 0 _ rfl) rfl (by decide) ⟨Nat.le_of_ble_eq_true rfl, Nat.le_of_ble_eq_true rfl⟩ ⟨Nat.zero_le _, Nat.zero_le _⟩ rfl rfl (Nat.le_of_ble_eq_true rfl) dX9_best_3 h (fun r2 D2 h => ?_)
  obtain ⟨s3, h⟩ := h
  refine go_istore_n [1, 2, 3, 0] (L' := [(0, vR E 0), (1, vI v1), (2, vI v2), (3, vI r2)]) dX9_best_6 rfl (by decide) rfl ?_
  refine go_iload_n 3 dX9_best_7 rfl rfl ?_
  refine go_if_eq 17 dX9_best_8 (by decide) s3 (fun c4 => ?_) (fun c4 => ?_)
  · have h := h.1 c4
    refine go_aload_n 0 dX9_best_17 rfl rfl ?_
    refine go_getR 5 f_X9_43 rfl (hL.1 0 _ rfl) (hL.2.1 0 5 _ rfl (by decide)) dX9_best_18 ?_
    refine go_vM (M := MX5_ready) [] [] mv_X9_260 (hL.1 42 _ rfl) rfl (by decide) ⟨Nat.le_of_ble_eq_true rfl, Nat.le_of_ble_eq_true rfl⟩ ⟨Nat.le_of_eq (Nat.zero_add _), Nat.le_of_eq (Nat.zero_add _)⟩ rfl rfl (Nat.le_of_ble_eq_true rfl) dX9_best_21 h (fun r6 G6 D6 h => ?_)
    obtain ⟨hL6, h⟩ := h
    refine go_aload_n 0 dX9_best_24 rfl rfl ?_
    refine go_getR 6 f_X9_52 rfl (hL6.1 0 _ rfl) (hL6.2.1 0 6 _ rfl (by decide)) dX9_best_25 ?_
    refine go_iload_n 1 dX9_best_28 rfl rfl ?_
    refine go_iload_n 2 dX9_best_29 rfl rfl ?_
    refine go_vV (M := MX1_listSets) [vI v1, vI v2] [] mv_X9_291 (hL6.1 49 _ rfl) rfl (by decide) ⟨Nat.le_of_ble_eq_true rfl, Nat.le_of_ble_eq_true rfl⟩ ⟨Nat.le_of_eq (Nat.zero_add _), Nat.le_of_eq (Nat.zero_add _)⟩ rfl rfl (Nat.le_of_ble_eq_true rfl) dX9_best_30 h (fun r8 D8 h => ?_)
    refine go_aload_n 0 dX9_best_33 rfl rfl ?_
    refine go_getR 6 f_X9_52 rfl (hL6.1 0 _ rfl) (hL6.2.1 0 6 _ rfl (by decide)) dX9_best_34 ?_
    refine go_aload_n 0 dX9_best_37 rfl rfl ?_
    refine go_getR 0 f_X9_10 rfl (hL6.1 0 _ rfl) (hL6.2.1 0 0 _ rfl (by decide)) dX9_best_38 ?_
    refine go_getI 4 (i := 4) f_X9_243 rfl (hL6.1 1 _ rfl) dX9_best_41 ?_
    refine go_vI (M := MX1_bestIndex) [vI (D8 1 4)] [] mv_X9_295 (hL6.1 49 _ rfl) rfl (by decide) ⟨Nat.le_of_ble_eq_true rfl, Nat.le_of_ble_eq_true rfl⟩ ⟨Nat.le_of_eq (Nat.zero_add _), Nat.le_of_eq (Nat.zero_add _)⟩ rfl rfl (Nat.le_of_ble_eq_true rfl) dX9_best_44 h (fun r10 D10 h => ?_)
    obtain ⟨s11, h⟩ := h
    refine go_istore [1, 2, 3, 4, 0] (L' := [(0, vR E 0), (1, vI v1), (2, vI v2), (3, vI r2), (4, vI r10)]) dX9_best_47 (by decide) rfl ?_
    refine go_aload_n 0 dX9_best_49 rfl rfl ?_
    refine go_aload_n 0 dX9_best_50 rfl rfl ?_
    refine go_getR 6 f_X9_52 rfl (hL6.1 0 _ rfl) (hL6.2.1 0 6 _ rfl (by decide)) dX9_best_51 ?_
    refine go_iload 4 dX9_best_54 rfl ?_
    refine go_aload_n 0 dX9_best_56 rfl rfl ?_
    refine go_getR 0 f_X9_10 rfl (hL6.1 0 _ rfl) (hL6.2.1 0 0 _ rfl (by decide)) dX9_best_57 ?_
    refine go_getI 4 (i := 4) f_X9_243 rfl (hL6.1 1 _ rfl) dX9_best_60 ?_
    refine go_rngI (c := 1) (i := 4) (hL6.1 1 _ rfl) rfl (fun (q13 : -2147483648 ≤ (D10 1 4) ∧ (D10 1 4) < 2147483648) => ?_)
    refine go_vJp (M := MX1_worthAt) [vI r10, vI (D10 1 4)] [vR E 0] mv_X9_298 (hL6.1 49 _ rfl) rfl (by decide) ⟨Nat.le_of_ble_eq_true rfl, Nat.le_of_ble_eq_true rfl⟩ ⟨Nat.le_of_eq (Nat.zero_add _), Nat.le_of_eq (Nat.zero_add _)⟩ rfl rfl (Nat.le_of_ble_eq_true rfl) dX9_best_63 (p_X1_worthAt hL6 s11 q13) ?_
    refine go_aload_n 0 dX9_best_66 rfl rfl ?_
    refine go_getR 5 f_X9_43 rfl (hL6.1 0 _ rfl) (hL6.2.1 0 5 _ rfl (by decide)) dX9_best_67 ?_
    refine go_vJp (M := MX5_wholeWeight) [] [vJ ((D10 51 r10) - ((D10 1 4) * (D10 52 r10))), vR E 0] mv_X9_276 (hL6.1 42 _ rfl) rfl (by decide) ⟨Nat.le_of_ble_eq_true rfl, Nat.le_of_ble_eq_true rfl⟩ ⟨Nat.le_of_eq (Nat.zero_add _), Nat.le_of_eq (Nat.zero_add _)⟩ rfl rfl (Nat.le_of_ble_eq_true rfl) dX9_best_70 (p_X5_wholeWeight hL6) ?_
    refine go_vI (M := MX9_tell) [vJ ((D10 51 r10) - ((D10 1 4) * (D10 52 r10))), vJ (jSl 1 (4 * (D10 1 1)))] [] mv_X9_280 (hL6.1 0 _ rfl) rfl (by decide) ⟨Nat.le_of_ble_eq_true rfl, Nat.le_of_ble_eq_true rfl⟩ ⟨Nat.le_of_eq (Nat.zero_add _), Nat.le_of_eq (Nat.zero_add _)⟩ rfl rfl (Nat.le_of_ble_eq_true rfl) dX9_best_73 h (fun r15 D15 h => ?_)
    refine go_pop rfl dX9_best_76 ?_
    refine go_aload_n 0 dX9_best_77 rfl rfl ?_
    refine go_getR 6 f_X9_52 rfl (hL6.1 0 _ rfl) (hL6.2.1 0 6 _ rfl (by decide)) dX9_best_78 ?_
    refine go_getR 2 f_X9_301 rfl (hL6.1 49 _ rfl) (hL6.2.1 49 2 _ rfl (by decide)) dX9_best_81 ?_
    refine go_iload 4 dX9_best_84 rfl ?_
    refine go_iaload (hL6.1 50 _ rfl) (b := 252) rfl (by decide) s11 dX9_best_86 ?_
    exact go_ireturn (Nat.le_of_eq (Nat.zero_add _)) (Nat.le_of_eq (Nat.zero_add _)) rfl dX9_best_87 h
  · have h := h.2 c4
    refine go_aload_n 0 dX9_best_11 rfl rfl ?_
    refine go_iload_n 3 dX9_best_12 rfl rfl ?_
    refine go_vIp (M := MX9_none) [vI r2] [] mv_X9_130 (hL.1 0 _ rfl) rfl (by decide) ⟨Nat.le_of_ble_eq_true rfl, Nat.le_of_ble_eq_true rfl⟩ ⟨Nat.zero_le _, Nat.zero_le _⟩ rfl rfl (Nat.le_of_ble_eq_true rfl) dX9_best_13 (p_X9_none hL s3) ?_
    exact go_ireturn (Nat.zero_le _) (Nat.zero_le _) rfl dX9_best_16 h
theorem s_X9_climb {l : Launch} {E : Ev} {mc ms : Nat} {Q : Int → Sh → Dm → Prop} {G : Sh} {D : Dm} (hL : Lay G) {v1 : Int}  (h : ((-2147483648 ≤ v1 ∧ v1 < 2147483648)) ∧ ((((0 ≤ v1) ∧ (v1 < (D 1 2))) → Ct l E MX5_ready 2 mc ms [vR E 42] G D (fun r5 G5 D5 => Lay G5 ∧ C0 l E MX1_climbFrom 0 [vR E 49, vI v1] G5 D5 (fun r7 D7 => C0 l E MX5_worthOf 1 [vR E 42, vI v1, vI r7] G5 (upd2 D7 0 16 (D7 49 6)) (fun r10 D10 => C0 l E MX9_tell 0 [vR E 0, vJ r10, vJ (jSl 1 (4 * (D10 1 1)))] G5 D10 (fun r13 D13 => Q r7 G5 D13))))) ∧ (¬ ((0 ≤ v1) ∧ (v1 < (D 1 2))) → Q (-1) G (upd2 D 0 11 1)))) : Ct l E MX9_climb 0 mc ms [vR E 0, vI v1] G D Q := by
  refine Ct.of (by decide) (Nat.le_of_ble_eq_true rfl) ?_
  show KX9_climb l E mc ms 0 0 Q 0 [(0, vR E 0), (1, vI v1)] G D
  obtain ⟨s1, h⟩ := h
  refine go_aload_n 0 dX9_climb_0 rfl rfl ?_
  refine go_getR 0 f_X9_10 rfl (hL.1 0 _ rfl) (hL.2.1 0 0 _ rfl (by decide)) dX9_climb_1 ?_
  refine go_iload_n 1 dX9_climb_4 rfl rfl ?_
  refine go_vIp (M := MX8_hasFamily) [vI v1] [] mv_X9_222 (hL.1 1 _ rfl) rfl (by decide) ⟨Nat.le_of_ble_eq_true rfl, Nat.le_of_ble_eq_true rfl⟩ ⟨Nat.zero_le _, Nat.zero_le _⟩ rfl rfl (Nat.le_of_ble_eq_true rfl) dX9_climb_5 (p_X8_hasFamily hL s1) ?_
  refine go_ifb_ne 17 dX9_climb_8 (by decide) (fun c3 => ?_) (fun c3 => ?_)
  · have h := h.1 c3
    refine go_aload_n 0 dX9_climb_17 rfl rfl ?_
    refine go_getR 5 f_X9_43 rfl (hL.1 0 _ rfl) (hL.2.1 0 5 _ rfl (by decide)) dX9_climb_18 ?_
    refine go_vM (M := MX5_ready) [] [] mv_X9_260 (hL.1 42 _ rfl) rfl (by decide) ⟨Nat.le_of_ble_eq_true rfl, Nat.le_of_ble_eq_true rfl⟩ ⟨Nat.le_of_eq (Nat.zero_add _), Nat.le_of_eq (Nat.zero_add _)⟩ rfl rfl (Nat.le_of_ble_eq_true rfl) dX9_climb_21 h (fun r5 G5 D5 h => ?_)
    obtain ⟨hL5, h⟩ := h
    refine go_aload_n 0 dX9_climb_24 rfl rfl ?_
    refine go_getR 6 f_X9_52 rfl (hL5.1 0 _ rfl) (hL5.2.1 0 6 _ rfl (by decide)) dX9_climb_25 ?_
    refine go_iload_n 1 dX9_climb_28 rfl rfl ?_
    refine go_vI (M := MX1_climbFrom) [vI v1] [] mv_X9_304 (hL5.1 49 _ rfl) rfl (by decide) ⟨Nat.le_of_ble_eq_true rfl, Nat.le_of_ble_eq_true rfl⟩ ⟨Nat.le_of_eq (Nat.zero_add _), Nat.le_of_eq (Nat.zero_add _)⟩ rfl rfl (Nat.le_of_ble_eq_true rfl) dX9_climb_29 h (fun r7 D7 h => ?_)
    refine go_istore_n [1, 2, 0] (L' := [(0, vR E 0), (1, vI v1), (2, vI r7)]) dX9_climb_32 rfl (by decide) rfl ?_
    refine go_aload_n 0 dX9_climb_33 rfl rfl ?_
    refine go_aload_n 0 dX9_climb_34 rfl rfl ?_
    refine go_getR 6 f_X9_52 rfl (hL5.1 0 _ rfl) (hL5.2.1 0 6 _ rfl (by decide)) dX9_climb_35 ?_
    refine go_getI 6 (i := 6) f_X9_307 rfl (hL5.1 49 _ rfl) dX9_climb_38 ?_
    refine go_rngI (c := 49) (i := 6) (hL5.1 49 _ rfl) rfl (fun (q9 : -2147483648 ≤ (D7 49 6) ∧ (D7 49 6) < 2147483648) => ?_)
    refine go_putI 16 (i := 16) q9 f_X9_100 rfl (hL5.1 0 _ rfl) dX9_climb_41 ?_
    refine go_aload_n 0 dX9_climb_44 rfl rfl ?_
    refine go_aload_n 0 dX9_climb_45 rfl rfl ?_
    refine go_getR 5 f_X9_43 rfl (hL5.1 0 _ rfl) (hL5.2.1 0 5 _ rfl (by decide)) dX9_climb_46 ?_
    refine go_iload_n 1 dX9_climb_49 rfl rfl ?_
    refine go_iload_n 2 dX9_climb_50 rfl rfl ?_
    refine go_vJ (M := MX5_worthOf) [vI v1, vI r7] [vR E 0] mv_X9_284 (hL5.1 42 _ rfl) rfl (by decide) ⟨Nat.le_of_ble_eq_true rfl, Nat.le_of_ble_eq_true rfl⟩ ⟨Nat.le_of_eq (Nat.zero_add _), Nat.le_of_eq (Nat.zero_add _)⟩ rfl rfl (Nat.le_of_ble_eq_true rfl) dX9_climb_51 h (fun r10 D10 h => ?_)
    refine go_aload_n 0 dX9_climb_54 rfl rfl ?_
    refine go_getR 5 f_X9_43 rfl (hL5.1 0 _ rfl) (hL5.2.1 0 5 _ rfl (by decide)) dX9_climb_55 ?_
    refine go_vJp (M := MX5_wholeWeight) [] [vJ r10, vR E 0] mv_X9_276 (hL5.1 42 _ rfl) rfl (by decide) ⟨Nat.le_of_ble_eq_true rfl, Nat.le_of_ble_eq_true rfl⟩ ⟨Nat.le_of_eq (Nat.zero_add _), Nat.le_of_eq (Nat.zero_add _)⟩ rfl rfl (Nat.le_of_ble_eq_true rfl) dX9_climb_58 (p_X5_wholeWeight hL5) ?_
    refine go_vI (M := MX9_tell) [vJ r10, vJ (jSl 1 (4 * (D10 1 1)))] [] mv_X9_280 (hL5.1 0 _ rfl) rfl (by decide) ⟨Nat.le_of_ble_eq_true rfl, Nat.le_of_ble_eq_true rfl⟩ ⟨Nat.le_of_eq (Nat.zero_add _), Nat.le_of_eq (Nat.zero_add _)⟩ rfl rfl (Nat.le_of_ble_eq_true rfl) dX9_climb_61 h (fun r13 D13 h => ?_)
    refine go_pop rfl dX9_climb_64 ?_
    refine go_iload_n 2 dX9_climb_65 rfl rfl ?_
    exact go_ireturn (Nat.le_of_eq (Nat.zero_add _)) (Nat.le_of_eq (Nat.zero_add _)) rfl dX9_climb_66 h
  · have h := h.2 c3
    refine go_aload_n 0 dX9_climb_11 rfl rfl ?_
    refine go_iconst dX9_climb_12 ?_
    refine go_vIp (M := MX9_none) [vI 1] [] mv_X9_130 (hL.1 0 _ rfl) rfl (by decide) ⟨Nat.le_of_ble_eq_true rfl, Nat.le_of_ble_eq_true rfl⟩ ⟨Nat.zero_le _, Nat.zero_le _⟩ rfl rfl (Nat.le_of_ble_eq_true rfl) dX9_climb_13 (p_X9_none hL (by decide)) ?_
    exact go_ireturn (Nat.zero_le _) (Nat.zero_le _) rfl dX9_climb_16 h
theorem s_X9_climbed {l : Launch} {E : Ev} {Q : Int → Sh → Dm → Prop} {G : Sh} {D : Dm} (hL : Lay G)  (h : (((D 0 16) ≠ (-1) → Q (D 0 16) G (upd2 D 0 11 0)) ∧ ((D 0 16) = (-1) → Q (-1) G (upd2 D 0 11 6)))) : Ct l E MX9_climbed 0 0 0 [vR E 0] G D Q := by
  refine Ct.of (by decide) (Nat.le_of_ble_eq_true rfl) ?_
  show KX9_climbed l E Q 0 [(0, vR E 0)] G D
  refine go_aload_n 0 dX9_climbed_0 rfl rfl ?_
  refine go_getI 16 (i := 16) f_X9_100 rfl (hL.1 0 _ rfl) dX9_climbed_1 ?_
  refine go_iconst dX9_climbed_4 ?_
  refine go_rngI (c := 0) (i := 16) (hL.1 0 _ rfl) rfl (fun (q2 : -2147483648 ≤ (D 0 16) ∧ (D 0 16) < 2147483648) => ?_)
  refine go_icmp_ne 17 dX9_climbed_5 (by decide) q2 (by decide) (fun c3 => ?_) (fun c3 => ?_)
  · have h := h.1 c3
    refine go_aload_n 0 dX9_climbed_17 rfl rfl ?_
    refine go_aload_n 0 dX9_climbed_18 rfl rfl ?_
    refine go_getI 16 (i := 16) f_X9_100 rfl (hL.1 0 _ rfl) dX9_climbed_19 ?_
    refine go_vIp (M := MX9_answer) [vI (D 0 16)] [] mv_X9_180 (hL.1 0 _ rfl) rfl (by decide) ⟨Nat.le_of_ble_eq_true rfl, Nat.le_of_ble_eq_true rfl⟩ ⟨Nat.le_refl _, Nat.le_refl _⟩ rfl rfl (Nat.le_of_ble_eq_true rfl) dX9_climbed_22 (p_X9_answer hL) ?_
    exact go_ireturn (Nat.le_refl _) (Nat.le_refl _) rfl dX9_climbed_25 h
  · have h := h.2 c3
    refine go_aload_n 0 dX9_climbed_8 rfl rfl ?_
    refine go_bipush dX9_climbed_9 (by decide) ?_
    refine go_vIp (M := MX9_none) [vI 6] [] mv_X9_130 (hL.1 0 _ rfl) rfl (by decide) ⟨Nat.le_of_ble_eq_true rfl, Nat.le_of_ble_eq_true rfl⟩ ⟨Nat.le_refl _, Nat.le_refl _⟩ rfl rfl (Nat.le_of_ble_eq_true rfl) dX9_climbed_11 (p_X9_none hL (by decide)) ?_
    refine go_goto 25 dX9_climbed_14 (by decide) ?_
    exact go_ireturn (Nat.le_refl _) (Nat.le_refl _) rfl dX9_climbed_25 h
theorem s_X9_edge {l : Launch} {E : Ev} {mc ms : Nat} {Q : Int → Sh → Dm → Prop} {G : Sh} {D : Dm} (hL : Lay G) {v1 v2 : Int}  (h : C0 l E MX9_whyNoBest 0 [vR E 0, vI v1, vI v2] G D (fun r2 D2 => ((-2147483648 ≤ r2 ∧ r2 < 2147483648)) ∧ ((r2 = 0 → Ct l E MX5_ready 2 mc ms [vR E 42] G D2 (fun r6 G6 D6 => Lay G6 ∧ C0 l E MX1_listSets 2 [vR E 49, vI v1, vI v2] G6 D6 (fun r8 D8 => C0 l E MX1_leastOtherHunger 0 [vR E 49] G6 D8 (fun r10 D10 => ((-2147483648 ≤ r10 ∧ r10 < 2147483648)) ∧ ((r10 ≠ (-1) → Q r10 G6 (upd2 D10 0 11 0)) ∧ (r10 = (-1) → Q (-1) G6 (upd2 D10 0 11 6))))))) ∧ (r2 ≠ 0 → Q (-1) G (upd2 D2 0 11 r2))))) : Ct l E MX9_edge 0 mc ms [vR E 0, vI v1, vI v2] G D Q := by
  refine Ct.of (by decide) (Nat.le_of_ble_eq_true rfl) ?_
  show KX9_edge l E mc ms 0 0 Q 0 [(0, vR E 0), (1, vI v1), (2, vI v2)] G D
  refine go_aload_n 0 dX9_edge_0 rfl rfl ?_
  refine go_iload_n 1 dX9_edge_1 rfl rfl ?_
  refine go_iload_n 2 dX9_edge_2 rfl rfl ?_
  refine go_vI (M := MX9_whyNoBest) [vI v1, vI v2] [] mv_X9_288 (hL.1 0 _ rfl) rfl (by decide) ⟨Nat.le_of_ble_eq_true rfl, Nat.le_of_ble_eq_true rfl⟩ ⟨Nat.zero_le _, Nat.zero_le _⟩ rfl rfl (Nat.le_of_ble_eq_true rfl) dX9_edge_3 h (fun r2 D2 h => ?_)
  obtain ⟨s3, h⟩ := h
  refine go_istore_n [1, 2, 3, 0] (L' := [(0, vR E 0), (1, vI v1), (2, vI v2), (3, vI r2)]) dX9_edge_6 rfl (by decide) rfl ?_
  refine go_iload_n 3 dX9_edge_7 rfl rfl ?_
  refine go_if_eq 17 dX9_edge_8 (by decide) s3 (fun c4 => ?_) (fun c4 => ?_)
  · have h := h.1 c4
    refine go_aload_n 0 dX9_edge_17 rfl rfl ?_
    refine go_getR 5 f_X9_43 rfl (hL.1 0 _ rfl) (hL.2.1 0 5 _ rfl (by decide)) dX9_edge_18 ?_
    refine go_vM (M := MX5_ready) [] [] mv_X9_260 (hL.1 42 _ rfl) rfl (by decide) ⟨Nat.le_of_ble_eq_true rfl, Nat.le_of_ble_eq_true rfl⟩ ⟨Nat.le_of_eq (Nat.zero_add _), Nat.le_of_eq (Nat.zero_add _)⟩ rfl rfl (Nat.le_of_ble_eq_true rfl) dX9_edge_21 h (fun r6 G6 D6 h => ?_)
    obtain ⟨hL6, h⟩ := h
    refine go_aload_n 0 dX9_edge_24 rfl rfl ?_
    refine go_getR 6 f_X9_52 rfl (hL6.1 0 _ rfl) (hL6.2.1 0 6 _ rfl (by decide)) dX9_edge_25 ?_
    refine go_iload_n 1 dX9_edge_28 rfl rfl ?_
    refine go_iload_n 2 dX9_edge_29 rfl rfl ?_
    refine go_vV (M := MX1_listSets) [vI v1, vI v2] [] mv_X9_291 (hL6.1 49 _ rfl) rfl (by decide) ⟨Nat.le_of_ble_eq_true rfl, Nat.le_of_ble_eq_true rfl⟩ ⟨Nat.le_of_eq (Nat.zero_add _), Nat.le_of_eq (Nat.zero_add _)⟩ rfl rfl (Nat.le_of_ble_eq_true rfl) dX9_edge_30 h (fun r8 D8 h => ?_)
    refine go_aload_n 0 dX9_edge_33 rfl rfl ?_
    refine go_getR 6 f_X9_52 rfl (hL6.1 0 _ rfl) (hL6.2.1 0 6 _ rfl (by decide)) dX9_edge_34 ?_
    refine go_vI (M := MX1_leastOtherHunger) [] [] mv_X9_310 (hL6.1 49 _ rfl) rfl (by decide) ⟨Nat.le_of_ble_eq_true rfl, Nat.le_of_ble_eq_true rfl⟩ ⟨Nat.le_of_eq (Nat.zero_add _), Nat.le_of_eq (Nat.zero_add _)⟩ rfl rfl (Nat.le_of_ble_eq_true rfl) dX9_edge_37 h (fun r10 D10 h => ?_)
    obtain ⟨s11, h⟩ := h
    refine go_istore [1, 2, 3, 4, 0] (L' := [(0, vR E 0), (1, vI v1), (2, vI v2), (3, vI r2), (4, vI r10)]) dX9_edge_40 (by decide) rfl ?_
    refine go_iload 4 dX9_edge_42 rfl ?_
    refine go_iconst dX9_edge_44 ?_
    refine go_icmp_ne 57 dX9_edge_45 (by decide) s11 (by decide) (fun c12 => ?_) (fun c12 => ?_)
    · have h := h.1 c12
      refine go_aload_n 0 dX9_edge_57 rfl rfl ?_
      refine go_iload 4 dX9_edge_58 rfl ?_
      refine go_vIp (M := MX9_answer) [vI r10] [] mv_X9_180 (hL6.1 0 _ rfl) rfl (by decide) ⟨Nat.le_of_ble_eq_true rfl, Nat.le_of_ble_eq_true rfl⟩ ⟨Nat.le_of_eq (Nat.zero_add _), Nat.le_of_eq (Nat.zero_add _)⟩ rfl rfl (Nat.le_of_ble_eq_true rfl) dX9_edge_60 (p_X9_answer hL6) ?_
      exact go_ireturn (Nat.le_of_eq (Nat.zero_add _)) (Nat.le_of_eq (Nat.zero_add _)) rfl dX9_edge_63 h
    · have h := h.2 c12
      refine go_aload_n 0 dX9_edge_48 rfl rfl ?_
      refine go_bipush dX9_edge_49 (by decide) ?_
      refine go_vIp (M := MX9_none) [vI 6] [] mv_X9_130 (hL6.1 0 _ rfl) rfl (by decide) ⟨Nat.le_of_ble_eq_true rfl, Nat.le_of_ble_eq_true rfl⟩ ⟨Nat.le_of_eq (Nat.zero_add _), Nat.le_of_eq (Nat.zero_add _)⟩ rfl rfl (Nat.le_of_ble_eq_true rfl) dX9_edge_51 (p_X9_none hL6 (by decide)) ?_
      refine go_goto 63 dX9_edge_54 (by decide) ?_
      exact go_ireturn (Nat.le_of_eq (Nat.zero_add _)) (Nat.le_of_eq (Nat.zero_add _)) rfl dX9_edge_63 h
  · have h := h.2 c4
    refine go_aload_n 0 dX9_edge_11 rfl rfl ?_
    refine go_iload_n 3 dX9_edge_12 rfl rfl ?_
    refine go_vIp (M := MX9_none) [vI r2] [] mv_X9_130 (hL.1 0 _ rfl) rfl (by decide) ⟨Nat.le_of_ble_eq_true rfl, Nat.le_of_ble_eq_true rfl⟩ ⟨Nat.zero_le _, Nat.zero_le _⟩ rfl rfl (Nat.le_of_ble_eq_true rfl) dX9_edge_13 (p_X9_none hL s3) ?_
    exact go_ireturn (Nat.zero_le _) (Nat.zero_le _) rfl dX9_edge_16 h
theorem s_X9_change {l : Launch} {E : Ev} {mc ms : Nat} {Q : Int → Sh → Dm → Prop} {G : Sh} {D : Dm} (hL : Lay G) {v1 v2 v3 v4 : Int}  (h : ((-2147483648 ≤ v3 ∧ v3 < 2147483648)) ∧ ((¬ ((0 ≤ v3) ∧ (v3 < (D 1 1))) → Q (-1) G (upd2 D 0 11 1)) ∧ (((0 ≤ v3) ∧ (v3 < (D 1 1))) → ((-2147483648 ≤ v4 ∧ v4 < 2147483648)) ∧ ((((0 ≤ v4) ∧ (v4 ≤ 16)) → C0 l E MX9_whyNoBest 0 [vR E 0, vI v1, vI v2] G D (fun r10 D10 => ((-2147483648 ≤ r10 ∧ r10 < 2147483648)) ∧ ((r10 = 0 → Ct l E MX5_ready 2 mc ms [vR E 42] G D10 (fun r14 G14 D14 => Lay G14 ∧ C0 l E MX1_listSets 2 [vR E 49, vI v1, vI v2] G14 D14 (fun r16 D16 => C0 l E MX1_bestIndex 0 [vR E 49, vI (D16 1 4)] G14 D16 (fun r18 D18 => C0 l E MX5_weigh 2 [vR E 42, vI v3, vI v4] G14 D18 (fun r20 D20 => C0 l E MX1_listSets 2 [vR E 49, vI v1, vI v2] G14 D20 (fun r22 D22 => C0 l E MX1_bestIndex 0 [vR E 49, vI (D22 1 4)] G14 D22 (fun r24 D24 => ((-2147483648 ≤ r18 ∧ r18 < 2147483648) ∧ (-2147483648 ≤ r24 ∧ r24 < 2147483648)) ∧ ((r18 ≠ r24 → Q 1 G14 (upd2 D24 0 11 0)) ∧ (r18 = r24 → Q 0 G14 (upd2 D24 0 11 0)))))))))) ∧ (r10 ≠ 0 → Q (-1) G (upd2 D10 0 11 r10))))) ∧ (¬ ((0 ≤ v4) ∧ (v4 ≤ 16)) → Q (-1) G (upd2 D 0 11 1)))))) : Ct l E MX9_change 0 mc ms [vR E 0, vI v1, vI v2, vI v3, vI v4] G D Q := by
  refine Ct.of (by decide) (Nat.le_of_ble_eq_true rfl) ?_
  show KX9_change l E mc ms 0 0 Q 0 [(0, vR E 0), (1, vI v1), (2, vI v2), (3, vI v3), (4, vI v4)] G D
  obtain ⟨s1, h⟩ := h
  refine go_aload_n 0 dX9_change_0 rfl rfl ?_
  refine go_getR 0 f_X9_10 rfl (hL.1 0 _ rfl) (hL.2.1 0 0 _ rfl (by decide)) dX9_change_1 ?_
  refine go_iload_n 3 dX9_change_4 rfl rfl ?_
  refine go_vIp (M := MX8_hasHarm) [vI v3] [] mv_X9_207 (hL.1 1 _ rfl) rfl (by decide) ⟨Nat.le_of_ble_eq_true rfl, Nat.le_of_ble_eq_true rfl⟩ ⟨Nat.zero_le _, Nat.zero_le _⟩ rfl rfl (Nat.le_of_ble_eq_true rfl) dX9_change_5 (p_X8_hasHarm hL s1) ?_
  refine go_ifb_eq 22 dX9_change_8 (by decide) (fun c3 => ?_) (fun c3 => ?_)
  · have h := h.1 c3
    refine go_aload_n 0 dX9_change_22 rfl rfl ?_
    refine go_iconst dX9_change_23 ?_
    refine go_vIp (M := MX9_none) [vI 1] [] mv_X9_130 (hL.1 0 _ rfl) rfl (by decide) ⟨Nat.le_of_ble_eq_true rfl, Nat.le_of_ble_eq_true rfl⟩ ⟨Nat.zero_le _, Nat.zero_le _⟩ rfl rfl (Nat.le_of_ble_eq_true rfl) dX9_change_24 (p_X9_none hL (by decide)) ?_
    exact go_ireturn (Nat.zero_le _) (Nat.zero_le _) rfl dX9_change_27 h
  · have h := h.2 c3
    obtain ⟨s6, h⟩ := h
    refine go_iload 4 dX9_change_11 rfl ?_
    refine go_iconst dX9_change_13 ?_
    refine go_bipush dX9_change_14 (by decide) ?_
    refine go_sIp (M := MX9_isWithin) [vI v4, vI 0, vI 16] [] ms_X9_107 ⟨Nat.le_of_ble_eq_true rfl, Nat.le_of_ble_eq_true rfl⟩ ⟨Nat.zero_le _, Nat.zero_le _⟩ rfl rfl (Nat.le_of_ble_eq_true rfl) dX9_change_16 (p_X9_isWithin hL s6 (by decide) (by decide)) ?_
    refine go_ifb_ne 28 dX9_change_19 (by decide) (fun c8 => ?_) (fun c8 => ?_)
    · have h := h.1 c8
      refine go_aload_n 0 dX9_change_28 rfl rfl ?_
      refine go_iload_n 1 dX9_change_29 rfl rfl ?_
      refine go_iload_n 2 dX9_change_30 rfl rfl ?_
      refine go_vI (M := MX9_whyNoBest) [vI v1, vI v2] [] mv_X9_288 (hL.1 0 _ rfl) rfl (by decide) ⟨Nat.le_of_ble_eq_true rfl, Nat.le_of_ble_eq_true rfl⟩ ⟨Nat.zero_le _, Nat.zero_le _⟩ rfl rfl (Nat.le_of_ble_eq_true rfl) dX9_change_31 h (fun r10 D10 h => ?_)
      obtain ⟨s11, h⟩ := h
      refine go_istore [1, 2, 3, 4, 5, 0] (L' := [(0, vR E 0), (1, vI v1), (2, vI v2), (3, vI v3), (4, vI v4), (5, vI r10)]) dX9_change_34 (by decide) rfl ?_
      refine go_iload 5 dX9_change_36 rfl ?_
      refine go_if_eq 48 dX9_change_38 (by decide) s11 (fun c12 => ?_) (fun c12 => ?_)
      · have h := h.1 c12
        refine go_aload_n 0 dX9_change_48 rfl rfl ?_
        refine go_getR 5 f_X9_43 rfl (hL.1 0 _ rfl) (hL.2.1 0 5 _ rfl (by decide)) dX9_change_49 ?_
        refine go_vM (M := MX5_ready) [] [] mv_X9_260 (hL.1 42 _ rfl) rfl (by decide) ⟨Nat.le_of_ble_eq_true rfl, Nat.le_of_ble_eq_true rfl⟩ ⟨Nat.le_of_eq (Nat.zero_add _), Nat.le_of_eq (Nat.zero_add _)⟩ rfl rfl (Nat.le_of_ble_eq_true rfl) dX9_change_52 h (fun r14 G14 D14 h => ?_)
        obtain ⟨hL14, h⟩ := h
        refine go_aload_n 0 dX9_change_55 rfl rfl ?_
        refine go_getR 6 f_X9_52 rfl (hL14.1 0 _ rfl) (hL14.2.1 0 6 _ rfl (by decide)) dX9_change_56 ?_
        refine go_iload_n 1 dX9_change_59 rfl rfl ?_
        refine go_iload_n 2 dX9_change_60 rfl rfl ?_
        refine go_vV (M := MX1_listSets) [vI v1, vI v2] [] mv_X9_291 (hL14.1 49 _ rfl) rfl (by decide) ⟨Nat.le_of_ble_eq_true rfl, Nat.le_of_ble_eq_true rfl⟩ ⟨Nat.le_of_eq (Nat.zero_add _), Nat.le_of_eq (Nat.zero_add _)⟩ rfl rfl (Nat.le_of_ble_eq_true rfl) dX9_change_61 h (fun r16 D16 h => ?_)
        refine go_aload_n 0 dX9_change_64 rfl rfl ?_
        refine go_getR 6 f_X9_52 rfl (hL14.1 0 _ rfl) (hL14.2.1 0 6 _ rfl (by decide)) dX9_change_65 ?_
        refine go_aload_n 0 dX9_change_68 rfl rfl ?_
        refine go_getR 0 f_X9_10 rfl (hL14.1 0 _ rfl) (hL14.2.1 0 0 _ rfl (by decide)) dX9_change_69 ?_
        refine go_getI 4 (i := 4) f_X9_243 rfl (hL14.1 1 _ rfl) dX9_change_72 ?_
        refine go_vI (M := MX1_bestIndex) [vI (D16 1 4)] [] mv_X9_295 (hL14.1 49 _ rfl) rfl (by decide) ⟨Nat.le_of_ble_eq_true rfl, Nat.le_of_ble_eq_true rfl⟩ ⟨Nat.le_of_eq (Nat.zero_add _), Nat.le_of_eq (Nat.zero_add _)⟩ rfl rfl (Nat.le_of_ble_eq_true rfl) dX9_change_75 h (fun r18 D18 h => ?_)
        refine go_istore [1, 2, 3, 4, 5, 6, 0] (L' := [(0, vR E 0), (1, vI v1), (2, vI v2), (3, vI v3), (4, vI v4), (5, vI r10), (6, vI r18)]) dX9_change_78 (by decide) rfl ?_
        refine go_aload_n 0 dX9_change_80 rfl rfl ?_
        refine go_getR 5 f_X9_43 rfl (hL14.1 0 _ rfl) (hL14.2.1 0 5 _ rfl (by decide)) dX9_change_81 ?_
        refine go_iload_n 3 dX9_change_84 rfl rfl ?_
        refine go_iload 4 dX9_change_85 rfl ?_
        refine go_vV (M := MX5_weigh) [vI v3, vI v4] [] mv_X9_314 (hL14.1 42 _ rfl) rfl (by decide) ⟨Nat.le_of_ble_eq_true rfl, Nat.le_of_ble_eq_true rfl⟩ ⟨Nat.le_of_eq (Nat.zero_add _), Nat.le_of_eq (Nat.zero_add _)⟩ rfl rfl (Nat.le_of_ble_eq_true rfl) dX9_change_87 h (fun r20 D20 h => ?_)
        refine go_aload_n 0 dX9_change_90 rfl rfl ?_
        refine go_getR 6 f_X9_52 rfl (hL14.1 0 _ rfl) (hL14.2.1 0 6 _ rfl (by decide)) dX9_change_91 ?_
        refine go_iload_n 1 dX9_change_94 rfl rfl ?_
        refine go_iload_n 2 dX9_change_95 rfl rfl ?_
        refine go_vV (M := MX1_listSets) [vI v1, vI v2] [] mv_X9_291 (hL14.1 49 _ rfl) rfl (by decide) ⟨Nat.le_of_ble_eq_true rfl, Nat.le_of_ble_eq_true rfl⟩ ⟨Nat.le_of_eq (Nat.zero_add _), Nat.le_of_eq (Nat.zero_add _)⟩ rfl rfl (Nat.le_of_ble_eq_true rfl) dX9_change_96 h (fun r22 D22 h => ?_)
        refine go_aload_n 0 dX9_change_99 rfl rfl ?_
        refine go_getR 6 f_X9_52 rfl (hL14.1 0 _ rfl) (hL14.2.1 0 6 _ rfl (by decide)) dX9_change_100 ?_
        refine go_aload_n 0 dX9_change_103 rfl rfl ?_
        refine go_getR 0 f_X9_10 rfl (hL14.1 0 _ rfl) (hL14.2.1 0 0 _ rfl (by decide)) dX9_change_104 ?_
        refine go_getI 4 (i := 4) f_X9_243 rfl (hL14.1 1 _ rfl) dX9_change_107 ?_
        refine go_vI (M := MX1_bestIndex) [vI (D22 1 4)] [] mv_X9_295 (hL14.1 49 _ rfl) rfl (by decide) ⟨Nat.le_of_ble_eq_true rfl, Nat.le_of_ble_eq_true rfl⟩ ⟨Nat.le_of_eq (Nat.zero_add _), Nat.le_of_eq (Nat.zero_add _)⟩ rfl rfl (Nat.le_of_ble_eq_true rfl) dX9_change_110 h (fun r24 D24 h => ?_)
        obtain ⟨s25, h⟩ := h
        refine go_istore [1, 2, 3, 4, 5, 6, 7, 0] (L' := [(0, vR E 0), (1, vI v1), (2, vI v2), (3, vI v3), (4, vI v4), (5, vI r10), (6, vI r18), (7, vI r24)]) dX9_change_113 (by decide) rfl ?_
        refine go_aload_n 0 dX9_change_115 rfl rfl ?_
        refine go_iload 6 dX9_change_116 rfl ?_
        refine go_iload 7 dX9_change_118 rfl ?_
        refine go_icmp_ne 127 dX9_change_120 (by decide) s25.1 s25.2 (fun c26 => ?_) (fun c26 => ?_)
        · have h := h.1 c26
          refine go_iconst dX9_change_127 ?_
          refine go_vIp (M := MX9_answer) [vI 1] [] mv_X9_180 (hL14.1 0 _ rfl) rfl (by decide) ⟨Nat.le_of_ble_eq_true rfl, Nat.le_of_ble_eq_true rfl⟩ ⟨Nat.le_of_eq (Nat.zero_add _), Nat.le_of_eq (Nat.zero_add _)⟩ rfl rfl (Nat.le_of_ble_eq_true rfl) dX9_change_128 (p_X9_answer hL14) ?_
          exact go_ireturn (Nat.le_of_eq (Nat.zero_add _)) (Nat.le_of_eq (Nat.zero_add _)) rfl dX9_change_131 h
        · have h := h.2 c26
          refine go_iconst dX9_change_123 ?_
          refine go_goto 128 dX9_change_124 (by decide) ?_
          refine go_vIp (M := MX9_answer) [vI 0] [] mv_X9_180 (hL14.1 0 _ rfl) rfl (by decide) ⟨Nat.le_of_ble_eq_true rfl, Nat.le_of_ble_eq_true rfl⟩ ⟨Nat.le_of_eq (Nat.zero_add _), Nat.le_of_eq (Nat.zero_add _)⟩ rfl rfl (Nat.le_of_ble_eq_true rfl) dX9_change_128 (p_X9_answer hL14) ?_
          exact go_ireturn (Nat.le_of_eq (Nat.zero_add _)) (Nat.le_of_eq (Nat.zero_add _)) rfl dX9_change_131 h
      · have h := h.2 c12
        refine go_aload_n 0 dX9_change_41 rfl rfl ?_
        refine go_iload 5 dX9_change_42 rfl ?_
        refine go_vIp (M := MX9_none) [vI r10] [] mv_X9_130 (hL.1 0 _ rfl) rfl (by decide) ⟨Nat.le_of_ble_eq_true rfl, Nat.le_of_ble_eq_true rfl⟩ ⟨Nat.zero_le _, Nat.zero_le _⟩ rfl rfl (Nat.le_of_ble_eq_true rfl) dX9_change_44 (p_X9_none hL s11) ?_
        exact go_ireturn (Nat.zero_le _) (Nat.zero_le _) rfl dX9_change_47 h
    · have h := h.2 c8
      refine go_aload_n 0 dX9_change_22 rfl rfl ?_
      refine go_iconst dX9_change_23 ?_
      refine go_vIp (M := MX9_none) [vI 1] [] mv_X9_130 (hL.1 0 _ rfl) rfl (by decide) ⟨Nat.le_of_ble_eq_true rfl, Nat.le_of_ble_eq_true rfl⟩ ⟨Nat.zero_le _, Nat.zero_le _⟩ rfl rfl (Nat.le_of_ble_eq_true rfl) dX9_change_24 (p_X9_none hL (by decide)) ?_
      exact go_ireturn (Nat.zero_le _) (Nat.zero_le _) rfl dX9_change_27 h
theorem s_X9_beside {l : Launch} {E : Ev} {mc ms : Nat} {Q : Int → Sh → Dm → Prop} {G : Sh} {D : Dm} (hL : Lay G) {v1 v2 v3 v4 v5 v6 : Int}  (h : ((-2147483648 ≤ v1 ∧ v1 < 2147483648)) ∧ ((¬ ((0 ≤ v1) ∧ (v1 < (D 1 2))) → Q 0 G (upd2 D 0 11 1)) ∧ (((0 ≤ v1) ∧ (v1 < (D 1 2))) → ((-2147483648 ≤ v3 ∧ v3 < 2147483648)) ∧ ((¬ ((v3 = (-1)) ∨ ((0 ≤ v3) ∧ (v3 < (D 1 2)))) → Q 0 G (upd2 D 0 11 1)) ∧ (((v3 = (-1)) ∨ ((0 ≤ v3) ∧ (v3 < (D 1 2)))) → ((v3 ≠ v1 → ((-2147483648 ≤ v4 ∧ v4 < 2147483648)) ∧ ((v4 = (-1) → ((-2147483648 ≤ v2 ∧ v2 < 2147483648)) ∧ ((¬ ((0 ≤ v2) ∧ (v2 ≤ 999)) → Q 0 G (upd2 D 0 11 1)) ∧ (((0 ≤ v2) ∧ (v2 ≤ 999)) → ((-2147483648 ≤ v5 ∧ v5 < 2147483648)) ∧ ((¬ ((0 ≤ v5) ∧ (v5 ≤ 99)) → Q 0 G (upd2 D 0 11 1)) ∧ (((0 ≤ v5) ∧ (v5 ≤ 99)) → ((-2147483648 ≤ v6 ∧ v6 < 2147483648)) ∧ ((((0 ≤ v6) ∧ (v6 ≤ 99)) → Ct l E MX5_ready 2 mc ms [vR E 42] G D (fun r29 G29 D29 => Lay G29 ∧ C0 l E MX0_fillOwn 2 [vR E 53, vI v1, vI v4, vI v5, vI v6] G29 D29 (fun r31 D31 => C0 l E MX0_fillGifts 2 [vR E 53, vI v3] G29 D31 (fun r33 D33 => C0 l E MX0_hungryWeight 1 [vR E 53, vI v1, vI v2] G29 D33 (fun r36 D36 => C0 l E MX9_tell 0 [vR E 0, vJ r36, vJ ((jSl 1 (4 * (D33 1 1))) * (jSl 1 (4 * (D33 1 1))))] G29 D36 (fun r38 D38 => ((r38 = 0 ∨ r38 = 1)) ∧ Q r38 G29 D38)))))) ∧ (¬ ((0 ≤ v6) ∧ (v6 ≤ 99)) → Q 0 G (upd2 D 0 11 1)))))))) ∧ (v4 ≠ (-1) → ((((0 ≤ v4) ∧ (v4 < (D 1 1))) → ((-2147483648 ≤ v2 ∧ v2 < 2147483648)) ∧ ((¬ ((0 ≤ v2) ∧ (v2 ≤ 999)) → Q 0 G (upd2 D 0 11 1)) ∧ (((0 ≤ v2) ∧ (v2 ≤ 999)) → ((-2147483648 ≤ v5 ∧ v5 < 2147483648)) ∧ ((¬ ((0 ≤ v5) ∧ (v5 ≤ 99)) → Q 0 G (upd2 D 0 11 1)) ∧ (((0 ≤ v5) ∧ (v5 ≤ 99)) → ((-2147483648 ≤ v6 ∧ v6 < 2147483648)) ∧ ((((0 ≤ v6) ∧ (v6 ≤ 99)) → Ct l E MX5_ready 2 mc ms [vR E 42] G D (fun r59 G59 D59 => Lay G59 ∧ C0 l E MX0_fillOwn 2 [vR E 53, vI v1, vI v4, vI v5, vI v6] G59 D59 (fun r61 D61 => C0 l E MX0_fillGifts 2 [vR E 53, vI v3] G59 D61 (fun r63 D63 => C0 l E MX0_hungryWeight 1 [vR E 53, vI v1, vI v2] G59 D63 (fun r66 D66 => C0 l E MX9_tell 0 [vR E 0, vJ r66, vJ ((jSl 1 (4 * (D63 1 1))) * (jSl 1 (4 * (D63 1 1))))] G59 D66 (fun r68 D68 => ((r68 = 0 ∨ r68 = 1)) ∧ Q r68 G59 D68)))))) ∧ (¬ ((0 ≤ v6) ∧ (v6 ≤ 99)) → Q 0 G (upd2 D 0 11 1)))))))) ∧ (¬ ((0 ≤ v4) ∧ (v4 < (D 1 1))) → Q 0 G (upd2 D 0 11 1)))))) ∧ (v3 = v1 → Q 0 G (upd2 D 0 11 1)))))))) : Ct l E MX9_beside 0 mc ms [vR E 0, vI v1, vI v2, vI v3, vI v4, vI v5, vI v6] G D Q := by
  refine Ct.of (by decide) (Nat.le_of_ble_eq_true rfl) ?_
  show KX9_beside l E mc ms 0 0 Q 0 [(0, vR E 0), (1, vI v1), (2, vI v2), (3, vI v3), (4, vI v4), (5, vI v5), (6, vI v6)] G D
  obtain ⟨s1, h⟩ := h
  refine go_aload_n 0 dX9_beside_0 rfl rfl ?_
  refine go_getR 0 f_X9_10 rfl (hL.1 0 _ rfl) (hL.2.1 0 0 _ rfl (by decide)) dX9_beside_1 ?_
  refine go_iload_n 1 dX9_beside_4 rfl rfl ?_
  refine go_vIp (M := MX8_hasFamily) [vI v1] [] mv_X9_222 (hL.1 1 _ rfl) rfl (by decide) ⟨Nat.le_of_ble_eq_true rfl, Nat.le_of_ble_eq_true rfl⟩ ⟨Nat.zero_le _, Nat.zero_le _⟩ rfl rfl (Nat.le_of_ble_eq_true rfl) dX9_beside_5 (p_X8_hasFamily hL s1) ?_
  refine go_ifb_eq 27 dX9_beside_8 (by decide) (fun c3 => ?_) (fun c3 => ?_)
  · have h := h.1 c3
    refine go_aload_n 0 dX9_beside_27 rfl rfl ?_
    refine go_iconst dX9_beside_28 ?_
    refine go_vIp (M := MX9_refuse) [vI 1] [] mv_X9_111 (hL.1 0 _ rfl) rfl (by decide) ⟨Nat.le_of_ble_eq_true rfl, Nat.le_of_ble_eq_true rfl⟩ ⟨Nat.zero_le _, Nat.zero_le _⟩ rfl rfl (Nat.le_of_ble_eq_true rfl) dX9_beside_29 (p_X9_refuse hL (by decide)) ?_
    exact go_zreturn (Nat.zero_le _) (Nat.zero_le _) rfl (by decide) dX9_beside_32 h
  · have h := h.2 c3
    obtain ⟨s6, h⟩ := h
    refine go_aload_n 0 dX9_beside_11 rfl rfl ?_
    refine go_getR 0 f_X9_10 rfl (hL.1 0 _ rfl) (hL.2.1 0 0 _ rfl (by decide)) dX9_beside_12 ?_
    refine go_iload_n 3 dX9_beside_15 rfl rfl ?_
    refine go_vIp (M := MX8_hasFamilyOrNone) [vI v3] [] mv_X9_237 (hL.1 1 _ rfl) rfl (by decide) ⟨Nat.le_of_ble_eq_true rfl, Nat.le_of_ble_eq_true rfl⟩ ⟨Nat.zero_le _, Nat.zero_le _⟩ rfl rfl (Nat.le_of_ble_eq_true rfl) dX9_beside_16 (p_X8_hasFamilyOrNone hL s6) ?_
    refine go_ifb_eq 27 dX9_beside_19 (by decide) (fun c8 => ?_) (fun c8 => ?_)
    · have h := h.1 c8
      refine go_aload_n 0 dX9_beside_27 rfl rfl ?_
      refine go_iconst dX9_beside_28 ?_
      refine go_vIp (M := MX9_refuse) [vI 1] [] mv_X9_111 (hL.1 0 _ rfl) rfl (by decide) ⟨Nat.le_of_ble_eq_true rfl, Nat.le_of_ble_eq_true rfl⟩ ⟨Nat.zero_le _, Nat.zero_le _⟩ rfl rfl (Nat.le_of_ble_eq_true rfl) dX9_beside_29 (p_X9_refuse hL (by decide)) ?_
      exact go_zreturn (Nat.zero_le _) (Nat.zero_le _) rfl (by decide) dX9_beside_32 h
    · have h := h.2 c8
      refine go_iload_n 3 dX9_beside_22 rfl rfl ?_
      refine go_iload_n 1 dX9_beside_23 rfl rfl ?_
      refine go_icmp_ne 33 dX9_beside_24 (by decide) s6 s1 (fun c12 => ?_) (fun c12 => ?_)
      · have h := h.1 c12
        obtain ⟨s13, h⟩ := h
        refine go_iload 4 dX9_beside_33 rfl ?_
        refine go_iconst dX9_beside_35 ?_
        refine go_icmp_eq 57 dX9_beside_36 (by decide) s13 (by decide) (fun c14 => ?_) (fun c14 => ?_)
        · have h := h.1 c14
          obtain ⟨s15, h⟩ := h
          refine go_iload_n 2 dX9_beside_57 rfl rfl ?_
          refine go_iconst dX9_beside_58 ?_
          refine go_sipush dX9_beside_59 (by decide) ?_
          refine go_sIp (M := MX9_isWithin) [vI v2, vI 0, vI 999] [] ms_X9_107 ⟨Nat.le_of_ble_eq_true rfl, Nat.le_of_ble_eq_true rfl⟩ ⟨Nat.zero_le _, Nat.zero_le _⟩ rfl rfl (Nat.le_of_ble_eq_true rfl) dX9_beside_62 (p_X9_isWithin hL s15 (by decide) (by decide)) ?_
          refine go_ifb_eq 90 dX9_beside_65 (by decide) (fun c17 => ?_) (fun c17 => ?_)
          · have h := h.1 c17
            refine go_aload_n 0 dX9_beside_90 rfl rfl ?_
            refine go_iconst dX9_beside_91 ?_
            refine go_vIp (M := MX9_refuse) [vI 1] [] mv_X9_111 (hL.1 0 _ rfl) rfl (by decide) ⟨Nat.le_of_ble_eq_true rfl, Nat.le_of_ble_eq_true rfl⟩ ⟨Nat.zero_le _, Nat.zero_le _⟩ rfl rfl (Nat.le_of_ble_eq_true rfl) dX9_beside_92 (p_X9_refuse hL (by decide)) ?_
            exact go_zreturn (Nat.zero_le _) (Nat.zero_le _) rfl (by decide) dX9_beside_95 h
          · have h := h.2 c17
            obtain ⟨s20, h⟩ := h
            refine go_iload 5 dX9_beside_68 rfl ?_
            refine go_iconst dX9_beside_70 ?_
            refine go_bipush dX9_beside_71 (by decide) ?_
            refine go_sIp (M := MX9_isWithin) [vI v5, vI 0, vI 99] [] ms_X9_107 ⟨Nat.le_of_ble_eq_true rfl, Nat.le_of_ble_eq_true rfl⟩ ⟨Nat.zero_le _, Nat.zero_le _⟩ rfl rfl (Nat.le_of_ble_eq_true rfl) dX9_beside_73 (p_X9_isWithin hL s20 (by decide) (by decide)) ?_
            refine go_ifb_eq 90 dX9_beside_76 (by decide) (fun c22 => ?_) (fun c22 => ?_)
            · have h := h.1 c22
              refine go_aload_n 0 dX9_beside_90 rfl rfl ?_
              refine go_iconst dX9_beside_91 ?_
              refine go_vIp (M := MX9_refuse) [vI 1] [] mv_X9_111 (hL.1 0 _ rfl) rfl (by decide) ⟨Nat.le_of_ble_eq_true rfl, Nat.le_of_ble_eq_true rfl⟩ ⟨Nat.zero_le _, Nat.zero_le _⟩ rfl rfl (Nat.le_of_ble_eq_true rfl) dX9_beside_92 (p_X9_refuse hL (by decide)) ?_
              exact go_zreturn (Nat.zero_le _) (Nat.zero_le _) rfl (by decide) dX9_beside_95 h
            · have h := h.2 c22
              obtain ⟨s25, h⟩ := h
              refine go_iload 6 dX9_beside_79 rfl ?_
              refine go_iconst dX9_beside_81 ?_
              refine go_bipush dX9_beside_82 (by decide) ?_
              refine go_sIp (M := MX9_isWithin) [vI v6, vI 0, vI 99] [] ms_X9_107 ⟨Nat.le_of_ble_eq_true rfl, Nat.le_of_ble_eq_true rfl⟩ ⟨Nat.zero_le _, Nat.zero_le _⟩ rfl rfl (Nat.le_of_ble_eq_true rfl) dX9_beside_84 (p_X9_isWithin hL s25 (by decide) (by decide)) ?_
              refine go_ifb_ne 96 dX9_beside_87 (by decide) (fun c27 => ?_) (fun c27 => ?_)
              · have h := h.1 c27
                refine go_aload_n 0 dX9_beside_96 rfl rfl ?_
                refine go_getR 5 f_X9_43 rfl (hL.1 0 _ rfl) (hL.2.1 0 5 _ rfl (by decide)) dX9_beside_97 ?_
                refine go_vM (M := MX5_ready) [] [] mv_X9_260 (hL.1 42 _ rfl) rfl (by decide) ⟨Nat.le_of_ble_eq_true rfl, Nat.le_of_ble_eq_true rfl⟩ ⟨Nat.le_of_eq (Nat.zero_add _), Nat.le_of_eq (Nat.zero_add _)⟩ rfl rfl (Nat.le_of_ble_eq_true rfl) dX9_beside_100 h (fun r29 G29 D29 h => ?_)
                obtain ⟨hL29, h⟩ := h
                refine go_aload_n 0 dX9_beside_103 rfl rfl ?_
                refine go_getR 7 f_X9_59 rfl (hL29.1 0 _ rfl) (hL29.2.1 0 7 _ rfl (by decide)) dX9_beside_104 ?_
                refine go_iload_n 1 dX9_beside_107 rfl rfl ?_
                refine go_iload 4 dX9_beside_108 rfl ?_
                refine go_iload 5 dX9_beside_110 rfl ?_
                refine go_iload 6 dX9_beside_112 rfl ?_
                refine go_vV (M := MX0_fillOwn) [vI v1, vI v4, vI v5, vI v6] [] mv_X9_317 (hL29.1 53 _ rfl) rfl (by decide) ⟨Nat.le_of_ble_eq_true rfl, Nat.le_of_ble_eq_true rfl⟩ ⟨Nat.le_of_eq (Nat.zero_add _), Nat.le_of_eq (Nat.zero_add _)⟩ rfl rfl (Nat.le_of_ble_eq_true rfl) dX9_beside_114 h (fun r31 D31 h => ?_)
                refine go_aload_n 0 dX9_beside_117 rfl rfl ?_
                refine go_getR 7 f_X9_59 rfl (hL29.1 0 _ rfl) (hL29.2.1 0 7 _ rfl (by decide)) dX9_beside_118 ?_
                refine go_iload_n 3 dX9_beside_121 rfl rfl ?_
                refine go_vV (M := MX0_fillGifts) [vI v3] [] mv_X9_321 (hL29.1 53 _ rfl) rfl (by decide) ⟨Nat.le_of_ble_eq_true rfl, Nat.le_of_ble_eq_true rfl⟩ ⟨Nat.le_of_eq (Nat.zero_add _), Nat.le_of_eq (Nat.zero_add _)⟩ rfl rfl (Nat.le_of_ble_eq_true rfl) dX9_beside_122 h (fun r33 D33 h => ?_)
                refine go_aload_n 0 dX9_beside_125 rfl rfl ?_
                refine go_getR 5 f_X9_43 rfl (hL29.1 0 _ rfl) (hL29.2.1 0 5 _ rfl (by decide)) dX9_beside_126 ?_
                refine go_vJp (M := MX5_wholeWeight) [] [] mv_X9_276 (hL29.1 42 _ rfl) rfl (by decide) ⟨Nat.le_of_ble_eq_true rfl, Nat.le_of_ble_eq_true rfl⟩ ⟨Nat.le_of_eq (Nat.zero_add _), Nat.le_of_eq (Nat.zero_add _)⟩ rfl rfl (Nat.le_of_ble_eq_true rfl) dX9_beside_129 (p_X5_wholeWeight hL29) ?_
                refine go_lstore [1, 2, 3, 4, 5, 6, 7, 0] (L' := [(0, vR E 0), (1, vI v1), (2, vI v2), (3, vI v3), (4, vI v4), (5, vI v5), (6, vI v6), (7, vJ (jSl 1 (4 * (D33 1 1))))]) dX9_beside_132 (by decide) rfl ?_
                refine go_aload_n 0 dX9_beside_134 rfl rfl ?_
                refine go_aload_n 0 dX9_beside_135 rfl rfl ?_
                refine go_getR 7 f_X9_59 rfl (hL29.1 0 _ rfl) (hL29.2.1 0 7 _ rfl (by decide)) dX9_beside_136 ?_
                refine go_iload_n 1 dX9_beside_139 rfl rfl ?_
                refine go_iload_n 2 dX9_beside_140 rfl rfl ?_
                refine go_vJ (M := MX0_hungryWeight) [vI v1, vI v2] [vR E 0] mv_X9_324 (hL29.1 53 _ rfl) rfl (by decide) ⟨Nat.le_of_ble_eq_true rfl, Nat.le_of_ble_eq_true rfl⟩ ⟨Nat.le_of_eq (Nat.zero_add _), Nat.le_of_eq (Nat.zero_add _)⟩ rfl rfl (Nat.le_of_ble_eq_true rfl) dX9_beside_141 h (fun r36 D36 h => ?_)
                refine go_lload 7 dX9_beside_144 rfl ?_
                refine go_lload 7 dX9_beside_146 rfl ?_
                refine go_lmul dX9_beside_148 ?_
                refine go_vI (M := MX9_tell) [vJ r36, vJ ((jSl 1 (4 * (D33 1 1))) * (jSl 1 (4 * (D33 1 1))))] [] mv_X9_280 (hL29.1 0 _ rfl) rfl (by decide) ⟨Nat.le_of_ble_eq_true rfl, Nat.le_of_ble_eq_true rfl⟩ ⟨Nat.le_of_eq (Nat.zero_add _), Nat.le_of_eq (Nat.zero_add _)⟩ rfl rfl (Nat.le_of_ble_eq_true rfl) dX9_beside_149 h (fun r38 D38 h => ?_)
                obtain ⟨s39, h⟩ := h
                exact go_zreturn (Nat.le_of_eq (Nat.zero_add _)) (Nat.le_of_eq (Nat.zero_add _)) rfl s39 dX9_beside_152 h
              · have h := h.2 c27
                refine go_aload_n 0 dX9_beside_90 rfl rfl ?_
                refine go_iconst dX9_beside_91 ?_
                refine go_vIp (M := MX9_refuse) [vI 1] [] mv_X9_111 (hL.1 0 _ rfl) rfl (by decide) ⟨Nat.le_of_ble_eq_true rfl, Nat.le_of_ble_eq_true rfl⟩ ⟨Nat.zero_le _, Nat.zero_le _⟩ rfl rfl (Nat.le_of_ble_eq_true rfl) dX9_beside_92 (p_X9_refuse hL (by decide)) ?_
                exact go_zreturn (Nat.zero_le _) (Nat.zero_le _) rfl (by decide) dX9_beside_95 h
        · have h := h.2 c14
          refine go_aload_n 0 dX9_beside_39 rfl rfl ?_
          refine go_getR 0 f_X9_10 rfl (hL.1 0 _ rfl) (hL.2.1 0 0 _ rfl (by decide)) dX9_beside_40 ?_
          refine go_iload 4 dX9_beside_43 rfl ?_
          refine go_vIp (M := MX8_hasHarm) [vI v4] [] mv_X9_207 (hL.1 1 _ rfl) rfl (by decide) ⟨Nat.le_of_ble_eq_true rfl, Nat.le_of_ble_eq_true rfl⟩ ⟨Nat.zero_le _, Nat.zero_le _⟩ rfl rfl (Nat.le_of_ble_eq_true rfl) dX9_beside_45 (p_X8_hasHarm hL s13) ?_
          refine go_ifb_ne 57 dX9_beside_48 (by decide) (fun c44 => ?_) (fun c44 => ?_)
          · have h := h.1 c44
            obtain ⟨s45, h⟩ := h
            refine go_iload_n 2 dX9_beside_57 rfl rfl ?_
            refine go_iconst dX9_beside_58 ?_
            refine go_sipush dX9_beside_59 (by decide) ?_
            refine go_sIp (M := MX9_isWithin) [vI v2, vI 0, vI 999] [] ms_X9_107 ⟨Nat.le_of_ble_eq_true rfl, Nat.le_of_ble_eq_true rfl⟩ ⟨Nat.zero_le _, Nat.zero_le _⟩ rfl rfl (Nat.le_of_ble_eq_true rfl) dX9_beside_62 (p_X9_isWithin hL s45 (by decide) (by decide)) ?_
            refine go_ifb_eq 90 dX9_beside_65 (by decide) (fun c47 => ?_) (fun c47 => ?_)
            · have h := h.1 c47
              refine go_aload_n 0 dX9_beside_90 rfl rfl ?_
              refine go_iconst dX9_beside_91 ?_
              refine go_vIp (M := MX9_refuse) [vI 1] [] mv_X9_111 (hL.1 0 _ rfl) rfl (by decide) ⟨Nat.le_of_ble_eq_true rfl, Nat.le_of_ble_eq_true rfl⟩ ⟨Nat.zero_le _, Nat.zero_le _⟩ rfl rfl (Nat.le_of_ble_eq_true rfl) dX9_beside_92 (p_X9_refuse hL (by decide)) ?_
              exact go_zreturn (Nat.zero_le _) (Nat.zero_le _) rfl (by decide) dX9_beside_95 h
            · have h := h.2 c47
              obtain ⟨s50, h⟩ := h
              refine go_iload 5 dX9_beside_68 rfl ?_
              refine go_iconst dX9_beside_70 ?_
              refine go_bipush dX9_beside_71 (by decide) ?_
              refine go_sIp (M := MX9_isWithin) [vI v5, vI 0, vI 99] [] ms_X9_107 ⟨Nat.le_of_ble_eq_true rfl, Nat.le_of_ble_eq_true rfl⟩ ⟨Nat.zero_le _, Nat.zero_le _⟩ rfl rfl (Nat.le_of_ble_eq_true rfl) dX9_beside_73 (p_X9_isWithin hL s50 (by decide) (by decide)) ?_
              refine go_ifb_eq 90 dX9_beside_76 (by decide) (fun c52 => ?_) (fun c52 => ?_)
              · have h := h.1 c52
                refine go_aload_n 0 dX9_beside_90 rfl rfl ?_
                refine go_iconst dX9_beside_91 ?_
                refine go_vIp (M := MX9_refuse) [vI 1] [] mv_X9_111 (hL.1 0 _ rfl) rfl (by decide) ⟨Nat.le_of_ble_eq_true rfl, Nat.le_of_ble_eq_true rfl⟩ ⟨Nat.zero_le _, Nat.zero_le _⟩ rfl rfl (Nat.le_of_ble_eq_true rfl) dX9_beside_92 (p_X9_refuse hL (by decide)) ?_
                exact go_zreturn (Nat.zero_le _) (Nat.zero_le _) rfl (by decide) dX9_beside_95 h
              · have h := h.2 c52
                obtain ⟨s55, h⟩ := h
                refine go_iload 6 dX9_beside_79 rfl ?_
                refine go_iconst dX9_beside_81 ?_
                refine go_bipush dX9_beside_82 (by decide) ?_
                refine go_sIp (M := MX9_isWithin) [vI v6, vI 0, vI 99] [] ms_X9_107 ⟨Nat.le_of_ble_eq_true rfl, Nat.le_of_ble_eq_true rfl⟩ ⟨Nat.zero_le _, Nat.zero_le _⟩ rfl rfl (Nat.le_of_ble_eq_true rfl) dX9_beside_84 (p_X9_isWithin hL s55 (by decide) (by decide)) ?_
                refine go_ifb_ne 96 dX9_beside_87 (by decide) (fun c57 => ?_) (fun c57 => ?_)
                · have h := h.1 c57
                  refine go_aload_n 0 dX9_beside_96 rfl rfl ?_
                  refine go_getR 5 f_X9_43 rfl (hL.1 0 _ rfl) (hL.2.1 0 5 _ rfl (by decide)) dX9_beside_97 ?_
                  refine go_vM (M := MX5_ready) [] [] mv_X9_260 (hL.1 42 _ rfl) rfl (by decide) ⟨Nat.le_of_ble_eq_true rfl, Nat.le_of_ble_eq_true rfl⟩ ⟨Nat.le_of_eq (Nat.zero_add _), Nat.le_of_eq (Nat.zero_add _)⟩ rfl rfl (Nat.le_of_ble_eq_true rfl) dX9_beside_100 h (fun r59 G59 D59 h => ?_)
                  obtain ⟨hL59, h⟩ := h
                  refine go_aload_n 0 dX9_beside_103 rfl rfl ?_
                  refine go_getR 7 f_X9_59 rfl (hL59.1 0 _ rfl) (hL59.2.1 0 7 _ rfl (by decide)) dX9_beside_104 ?_
                  refine go_iload_n 1 dX9_beside_107 rfl rfl ?_
                  refine go_iload 4 dX9_beside_108 rfl ?_
                  refine go_iload 5 dX9_beside_110 rfl ?_
                  refine go_iload 6 dX9_beside_112 rfl ?_
                  refine go_vV (M := MX0_fillOwn) [vI v1, vI v4, vI v5, vI v6] [] mv_X9_317 (hL59.1 53 _ rfl) rfl (by decide) ⟨Nat.le_of_ble_eq_true rfl, Nat.le_of_ble_eq_true rfl⟩ ⟨Nat.le_of_eq (Nat.zero_add _), Nat.le_of_eq (Nat.zero_add _)⟩ rfl rfl (Nat.le_of_ble_eq_true rfl) dX9_beside_114 h (fun r61 D61 h => ?_)
                  refine go_aload_n 0 dX9_beside_117 rfl rfl ?_
                  refine go_getR 7 f_X9_59 rfl (hL59.1 0 _ rfl) (hL59.2.1 0 7 _ rfl (by decide)) dX9_beside_118 ?_
                  refine go_iload_n 3 dX9_beside_121 rfl rfl ?_
                  refine go_vV (M := MX0_fillGifts) [vI v3] [] mv_X9_321 (hL59.1 53 _ rfl) rfl (by decide) ⟨Nat.le_of_ble_eq_true rfl, Nat.le_of_ble_eq_true rfl⟩ ⟨Nat.le_of_eq (Nat.zero_add _), Nat.le_of_eq (Nat.zero_add _)⟩ rfl rfl (Nat.le_of_ble_eq_true rfl) dX9_beside_122 h (fun r63 D63 h => ?_)
                  refine go_aload_n 0 dX9_beside_125 rfl rfl ?_
                  refine go_getR 5 f_X9_43 rfl (hL59.1 0 _ rfl) (hL59.2.1 0 5 _ rfl (by decide)) dX9_beside_126 ?_
                  refine go_vJp (M := MX5_wholeWeight) [] [] mv_X9_276 (hL59.1 42 _ rfl) rfl (by decide) ⟨Nat.le_of_ble_eq_true rfl, Nat.le_of_ble_eq_true rfl⟩ ⟨Nat.le_of_eq (Nat.zero_add _), Nat.le_of_eq (Nat.zero_add _)⟩ rfl rfl (Nat.le_of_ble_eq_true rfl) dX9_beside_129 (p_X5_wholeWeight hL59) ?_
                  refine go_lstore [1, 2, 3, 4, 5, 6, 7, 0] (L' := [(0, vR E 0), (1, vI v1), (2, vI v2), (3, vI v3), (4, vI v4), (5, vI v5), (6, vI v6), (7, vJ (jSl 1 (4 * (D63 1 1))))]) dX9_beside_132 (by decide) rfl ?_
                  refine go_aload_n 0 dX9_beside_134 rfl rfl ?_
                  refine go_aload_n 0 dX9_beside_135 rfl rfl ?_
                  refine go_getR 7 f_X9_59 rfl (hL59.1 0 _ rfl) (hL59.2.1 0 7 _ rfl (by decide)) dX9_beside_136 ?_
                  refine go_iload_n 1 dX9_beside_139 rfl rfl ?_
                  refine go_iload_n 2 dX9_beside_140 rfl rfl ?_
                  refine go_vJ (M := MX0_hungryWeight) [vI v1, vI v2] [vR E 0] mv_X9_324 (hL59.1 53 _ rfl) rfl (by decide) ⟨Nat.le_of_ble_eq_true rfl, Nat.le_of_ble_eq_true rfl⟩ ⟨Nat.le_of_eq (Nat.zero_add _), Nat.le_of_eq (Nat.zero_add _)⟩ rfl rfl (Nat.le_of_ble_eq_true rfl) dX9_beside_141 h (fun r66 D66 h => ?_)
                  refine go_lload 7 dX9_beside_144 rfl ?_
                  refine go_lload 7 dX9_beside_146 rfl ?_
                  refine go_lmul dX9_beside_148 ?_
                  refine go_vI (M := MX9_tell) [vJ r66, vJ ((jSl 1 (4 * (D63 1 1))) * (jSl 1 (4 * (D63 1 1))))] [] mv_X9_280 (hL59.1 0 _ rfl) rfl (by decide) ⟨Nat.le_of_ble_eq_true rfl, Nat.le_of_ble_eq_true rfl⟩ ⟨Nat.le_of_eq (Nat.zero_add _), Nat.le_of_eq (Nat.zero_add _)⟩ rfl rfl (Nat.le_of_ble_eq_true rfl) dX9_beside_149 h (fun r68 D68 h => ?_)
                  obtain ⟨s69, h⟩ := h
                  exact go_zreturn (Nat.le_of_eq (Nat.zero_add _)) (Nat.le_of_eq (Nat.zero_add _)) rfl s69 dX9_beside_152 h
                · have h := h.2 c57
                  refine go_aload_n 0 dX9_beside_90 rfl rfl ?_
                  refine go_iconst dX9_beside_91 ?_
                  refine go_vIp (M := MX9_refuse) [vI 1] [] mv_X9_111 (hL.1 0 _ rfl) rfl (by decide) ⟨Nat.le_of_ble_eq_true rfl, Nat.le_of_ble_eq_true rfl⟩ ⟨Nat.zero_le _, Nat.zero_le _⟩ rfl rfl (Nat.le_of_ble_eq_true rfl) dX9_beside_92 (p_X9_refuse hL (by decide)) ?_
                  exact go_zreturn (Nat.zero_le _) (Nat.zero_le _) rfl (by decide) dX9_beside_95 h
          · have h := h.2 c44
            refine go_aload_n 0 dX9_beside_51 rfl rfl ?_
            refine go_iconst dX9_beside_52 ?_
            refine go_vIp (M := MX9_refuse) [vI 1] [] mv_X9_111 (hL.1 0 _ rfl) rfl (by decide) ⟨Nat.le_of_ble_eq_true rfl, Nat.le_of_ble_eq_true rfl⟩ ⟨Nat.zero_le _, Nat.zero_le _⟩ rfl rfl (Nat.le_of_ble_eq_true rfl) dX9_beside_53 (p_X9_refuse hL (by decide)) ?_
            exact go_zreturn (Nat.zero_le _) (Nat.zero_le _) rfl (by decide) dX9_beside_56 h
      · have h := h.2 c12
        refine go_aload_n 0 dX9_beside_27 rfl rfl ?_
        refine go_iconst dX9_beside_28 ?_
        refine go_vIp (M := MX9_refuse) [vI 1] [] mv_X9_111 (hL.1 0 _ rfl) rfl (by decide) ⟨Nat.le_of_ble_eq_true rfl, Nat.le_of_ble_eq_true rfl⟩ ⟨Nat.zero_le _, Nat.zero_le _⟩ rfl rfl (Nat.le_of_ble_eq_true rfl) dX9_beside_29 (p_X9_refuse hL (by decide)) ?_
        exact go_zreturn (Nat.zero_le _) (Nat.zero_le _) rfl (by decide) dX9_beside_32 h
theorem s_X9_isCouple {l : Launch} {E : Ev} {Q : Int → Sh → Dm → Prop} {G : Sh} {D : Dm} (hL : Lay G) {v1 v2 : Int}  (h : ((-2147483648 ≤ v1 ∧ v1 < 2147483648)) ∧ ((¬ ((0 ≤ v1) ∧ (v1 < (D 1 2))) → Q 0 G D) ∧ (((0 ≤ v1) ∧ (v1 < (D 1 2))) → ((-2147483648 ≤ v2 ∧ v2 < 2147483648)) ∧ ((¬ ((0 ≤ v2) ∧ (v2 < (D 1 2))) → Q 0 G D) ∧ (((0 ≤ v2) ∧ (v2 < (D 1 2))) → ((v1 = v2 → Q 0 G D) ∧ (v1 ≠ v2 → Q 1 G D))))))) : Ct l E MX9_isCouple 0 0 0 [vR E 0, vI v1, vI v2] G D Q := by
  refine Ct.of (by decide) (Nat.le_of_ble_eq_true rfl) ?_
  show KX9_isCouple l E Q 0 [(0, vR E 0), (1, vI v1), (2, vI v2)] G D
  obtain ⟨s1, h⟩ := h
  refine go_aload_n 0 dX9_isCouple_0 rfl rfl ?_
  refine go_getR 0 f_X9_10 rfl (hL.1 0 _ rfl) (hL.2.1 0 0 _ rfl (by decide)) dX9_isCouple_1 ?_
  refine go_iload_n 1 dX9_isCouple_4 rfl rfl ?_
  refine go_vIp (M := MX8_hasFamily) [vI v1] [] mv_X9_222 (hL.1 1 _ rfl) rfl (by decide) ⟨Nat.le_of_ble_eq_true rfl, Nat.le_of_ble_eq_true rfl⟩ ⟨Nat.le_refl _, Nat.le_refl _⟩ rfl rfl (Nat.le_of_ble_eq_true rfl) dX9_isCouple_5 (p_X8_hasFamily hL s1) ?_
  refine go_ifb_eq 31 dX9_isCouple_8 (by decide) (fun c3 => ?_) (fun c3 => ?_)
  · have h := h.1 c3
    refine go_iconst dX9_isCouple_31 ?_
    exact go_zreturn (Nat.le_refl _) (Nat.le_refl _) rfl (by decide) dX9_isCouple_32 h
  · have h := h.2 c3
    obtain ⟨s5, h⟩ := h
    refine go_aload_n 0 dX9_isCouple_11 rfl rfl ?_
    refine go_getR 0 f_X9_10 rfl (hL.1 0 _ rfl) (hL.2.1 0 0 _ rfl (by decide)) dX9_isCouple_12 ?_
    refine go_iload_n 2 dX9_isCouple_15 rfl rfl ?_
    refine go_vIp (M := MX8_hasFamily) [vI v2] [] mv_X9_222 (hL.1 1 _ rfl) rfl (by decide) ⟨Nat.le_of_ble_eq_true rfl, Nat.le_of_ble_eq_true rfl⟩ ⟨Nat.le_refl _, Nat.le_refl _⟩ rfl rfl (Nat.le_of_ble_eq_true rfl) dX9_isCouple_16 (p_X8_hasFamily hL s5) ?_
    refine go_ifb_eq 31 dX9_isCouple_19 (by decide) (fun c7 => ?_) (fun c7 => ?_)
    · have h := h.1 c7
      refine go_iconst dX9_isCouple_31 ?_
      exact go_zreturn (Nat.le_refl _) (Nat.le_refl _) rfl (by decide) dX9_isCouple_32 h
    · have h := h.2 c7
      refine go_iload_n 1 dX9_isCouple_22 rfl rfl ?_
      refine go_iload_n 2 dX9_isCouple_23 rfl rfl ?_
      refine go_icmp_eq 31 dX9_isCouple_24 (by decide) s1 s5 (fun c10 => ?_) (fun c10 => ?_)
      · have h := h.1 c10
        refine go_iconst dX9_isCouple_31 ?_
        exact go_zreturn (Nat.le_refl _) (Nat.le_refl _) rfl (by decide) dX9_isCouple_32 h
      · have h := h.2 c10
        refine go_iconst dX9_isCouple_27 ?_
        refine go_goto 32 dX9_isCouple_28 (by decide) ?_
        exact go_zreturn (Nat.le_refl _) (Nat.le_refl _) rfl (by decide) dX9_isCouple_32 h
theorem p_X9_isCouple {l : Launch} {E : Ev} {G : Sh} {D : Dm} (hL : Lay G) {v1 v2 : Int}  (q0 : -2147483648 ≤ v1 ∧ v1 < 2147483648) (q1 : -2147483648 ≤ v2 ∧ v2 < 2147483648) : C0 l E MX9_isCouple 0 [vR E 0, vI v1, vI v2] G D (fun r D' => r = (if (((0 ≤ v1) ∧ (v1 < (D 1 2))) ∧ (((0 ≤ v2) ∧ (v2 < (D 1 2))) ∧ (v1 ≠ v2))) then 1 else 0) ∧ D' = D) := by
  refine s_X9_isCouple hL ?_
  refine ⟨q0, ?_⟩
  refine ⟨fun hc => ?_, fun hc => ?_⟩
  · refine ⟨rfl, ?_, rfl⟩
    (split <;> first | rfl | (exfalso; simp_all; done) | omega | simp_all)
  · refine ⟨q1, ?_⟩
    refine ⟨fun hc => ?_, fun hc => ?_⟩
    · refine ⟨rfl, ?_, rfl⟩
      (split <;> first | rfl | (exfalso; simp_all; done) | omega | simp_all)
    · refine ⟨fun hc => ?_, fun hc => ?_⟩
      · refine ⟨rfl, ?_, rfl⟩
        (split <;> first | rfl | (exfalso; simp_all; done) | omega | simp_all)
      · refine ⟨rfl, ?_, rfl⟩
        (split <;> first | rfl | (exfalso; simp_all; done) | omega | simp_all)
theorem s_X9_swaps {l : Launch} {E : Ev} {mc ms : Nat} {Q : Int → Sh → Dm → Prop} {G : Sh} {D : Dm} (hL : Lay G) {v1 v2 : Int}  (h : ((-2147483648 ≤ v1 ∧ v1 < 2147483648) ∧ (-2147483648 ≤ v2 ∧ v2 < 2147483648)) ∧ (((((0 ≤ v1) ∧ (v1 < (D 1 2))) ∧ (((0 ≤ v2) ∧ (v2 < (D 1 2))) ∧ (v1 ≠ v2))) → Ct l E MX5_ready 2 mc ms [vR E 42] G D (fun r5 G5 D5 => Lay G5 ∧ C0 l E MX4_countSwaps 0 [vR E 56, vI v1, vI v2, vI 2147483647] G5 D5 (fun r7 D7 => Q r7 G5 (upd2 D7 0 11 0)))) ∧ (¬ (((0 ≤ v1) ∧ (v1 < (D 1 2))) ∧ (((0 ≤ v2) ∧ (v2 < (D 1 2))) ∧ (v1 ≠ v2))) → Q (-1) G (upd2 D 0 11 1)))) : Ct l E MX9_swaps 0 mc ms [vR E 0, vI v1, vI v2] G D Q := by
  refine Ct.of (by decide) (Nat.le_of_ble_eq_true rfl) ?_
  show KX9_swaps l E mc ms 0 0 Q 0 [(0, vR E 0), (1, vI v1), (2, vI v2)] G D
  obtain ⟨s1, h⟩ := h
  refine go_aload_n 0 dX9_swaps_0 rfl rfl ?_
  refine go_iload_n 1 dX9_swaps_1 rfl rfl ?_
  refine go_iload_n 2 dX9_swaps_2 rfl rfl ?_
  refine go_vIp (M := MX9_isCouple) [vI v1, vI v2] [] mv_X9_327 (hL.1 0 _ rfl) rfl (by decide) ⟨Nat.le_of_ble_eq_true rfl, Nat.le_of_ble_eq_true rfl⟩ ⟨Nat.zero_le _, Nat.zero_le _⟩ rfl rfl (Nat.le_of_ble_eq_true rfl) dX9_swaps_3 (p_X9_isCouple hL s1.1 s1.2) ?_
  refine go_ifb_ne 15 dX9_swaps_6 (by decide) (fun c3 => ?_) (fun c3 => ?_)
  · have h := h.1 c3
    refine go_aload_n 0 dX9_swaps_15 rfl rfl ?_
    refine go_getR 5 f_X9_43 rfl (hL.1 0 _ rfl) (hL.2.1 0 5 _ rfl (by decide)) dX9_swaps_16 ?_
    refine go_vM (M := MX5_ready) [] [] mv_X9_260 (hL.1 42 _ rfl) rfl (by decide) ⟨Nat.le_of_ble_eq_true rfl, Nat.le_of_ble_eq_true rfl⟩ ⟨Nat.le_of_eq (Nat.zero_add _), Nat.le_of_eq (Nat.zero_add _)⟩ rfl rfl (Nat.le_of_ble_eq_true rfl) dX9_swaps_19 h (fun r5 G5 D5 h => ?_)
    obtain ⟨hL5, h⟩ := h
    refine go_aload_n 0 dX9_swaps_22 rfl rfl ?_
    refine go_aload_n 0 dX9_swaps_23 rfl rfl ?_
    refine go_getR 8 f_X9_66 rfl (hL5.1 0 _ rfl) (hL5.2.1 0 8 _ rfl (by decide)) dX9_swaps_24 ?_
    refine go_iload_n 1 dX9_swaps_27 rfl rfl ?_
    refine go_iload_n 2 dX9_swaps_28 rfl rfl ?_
    refine go_ldcw (x := 2147483647) k_X9_330 dX9_swaps_29 ?_
    refine go_vI (M := MX4_countSwaps) [vI v1, vI v2, vI 2147483647] [vR E 0] mv_X9_331 (hL5.1 56 _ rfl) rfl (by decide) ⟨Nat.le_of_ble_eq_true rfl, Nat.le_of_ble_eq_true rfl⟩ ⟨Nat.le_of_eq (Nat.zero_add _), Nat.le_of_eq (Nat.zero_add _)⟩ rfl rfl (Nat.le_of_ble_eq_true rfl) dX9_swaps_32 h (fun r7 D7 h => ?_)
    refine go_vIp (M := MX9_answer) [vI r7] [] mv_X9_180 (hL5.1 0 _ rfl) rfl (by decide) ⟨Nat.le_of_ble_eq_true rfl, Nat.le_of_ble_eq_true rfl⟩ ⟨Nat.le_of_eq (Nat.zero_add _), Nat.le_of_eq (Nat.zero_add _)⟩ rfl rfl (Nat.le_of_ble_eq_true rfl) dX9_swaps_35 (p_X9_answer hL5) ?_
    exact go_ireturn (Nat.le_of_eq (Nat.zero_add _)) (Nat.le_of_eq (Nat.zero_add _)) rfl dX9_swaps_38 h
  · have h := h.2 c3
    refine go_aload_n 0 dX9_swaps_9 rfl rfl ?_
    refine go_iconst dX9_swaps_10 ?_
    refine go_vIp (M := MX9_none) [vI 1] [] mv_X9_130 (hL.1 0 _ rfl) rfl (by decide) ⟨Nat.le_of_ble_eq_true rfl, Nat.le_of_ble_eq_true rfl⟩ ⟨Nat.zero_le _, Nat.zero_le _⟩ rfl rfl (Nat.le_of_ble_eq_true rfl) dX9_swaps_11 (p_X9_none hL (by decide)) ?_
    exact go_ireturn (Nat.zero_le _) (Nat.zero_le _) rfl dX9_swaps_14 h
theorem s_X9_swap {l : Launch} {E : Ev} {mc ms : Nat} {Q : Int → Sh → Dm → Prop} {G : Sh} {D : Dm} (hL : Lay G) {v1 v2 v3 v4 : Int}  (h : ((-2147483648 ≤ v1 ∧ v1 < 2147483648) ∧ (-2147483648 ≤ v2 ∧ v2 < 2147483648)) ∧ ((¬ (((0 ≤ v1) ∧ (v1 < (D 1 2))) ∧ (((0 ≤ v2) ∧ (v2 < (D 1 2))) ∧ (v1 ≠ v2))) → Q (-1) G (upd2 D 0 11 1)) ∧ ((((0 ≤ v1) ∧ (v1 < (D 1 2))) ∧ (((0 ≤ v2) ∧ (v2 < (D 1 2))) ∧ (v1 ≠ v2))) → ((-2147483648 ≤ v3 ∧ v3 < 2147483648)) ∧ ((v3 < 0 → Q (-1) G (upd2 D 0 11 1)) ∧ (0 ≤ v3 → ((-2147483648 ≤ v4 ∧ v4 < 2147483648)) ∧ ((((0 ≤ v4) ∧ (v4 ≤ 1)) → Ct l E MX5_ready 2 mc ms [vR E 42] G D (fun r14 G14 D14 => Lay G14 ∧ C0 l E MX4_countSwaps 0 [vR E 56, vI v1, vI v2, vI v3] G14 D14 (fun r16 D16 => ((-2147483648 ≤ r16 ∧ r16 < 2147483648)) ∧ ((v3 < r16 → ((0 ≤ v4 ∧ v4 < 3)) ∧ Q (D16 57 v4) G14 (upd2 D16 0 11 0)) ∧ (r16 ≤ v3 → Q (-1) G14 (upd2 D16 0 11 6)))))) ∧ (¬ ((0 ≤ v4) ∧ (v4 ≤ 1)) → Q (-1) G (upd2 D 0 11 1)))))))) : Ct l E MX9_swap 0 mc ms [vR E 0, vI v1, vI v2, vI v3, vI v4] G D Q := by
  refine Ct.of (by decide) (Nat.le_of_ble_eq_true rfl) ?_
  show KX9_swap l E mc ms 0 0 Q 0 [(0, vR E 0), (1, vI v1), (2, vI v2), (3, vI v3), (4, vI v4)] G D
  obtain ⟨s1, h⟩ := h
  refine go_aload_n 0 dX9_swap_0 rfl rfl ?_
  refine go_iload_n 1 dX9_swap_1 rfl rfl ?_
  refine go_iload_n 2 dX9_swap_2 rfl rfl ?_
  refine go_vIp (M := MX9_isCouple) [vI v1, vI v2] [] mv_X9_327 (hL.1 0 _ rfl) rfl (by decide) ⟨Nat.le_of_ble_eq_true rfl, Nat.le_of_ble_eq_true rfl⟩ ⟨Nat.zero_le _, Nat.zero_le _⟩ rfl rfl (Nat.le_of_ble_eq_true rfl) dX9_swap_3 (p_X9_isCouple hL s1.1 s1.2) ?_
  refine go_ifb_eq 23 dX9_swap_6 (by decide) (fun c3 => ?_) (fun c3 => ?_)
  · have h := h.1 c3
    refine go_aload_n 0 dX9_swap_23 rfl rfl ?_
    refine go_iconst dX9_swap_24 ?_
    refine go_vIp (M := MX9_none) [vI 1] [] mv_X9_130 (hL.1 0 _ rfl) rfl (by decide) ⟨Nat.le_of_ble_eq_true rfl, Nat.le_of_ble_eq_true rfl⟩ ⟨Nat.zero_le _, Nat.zero_le _⟩ rfl rfl (Nat.le_of_ble_eq_true rfl) dX9_swap_25 (p_X9_none hL (by decide)) ?_
    exact go_ireturn (Nat.zero_le _) (Nat.zero_le _) rfl dX9_swap_28 h
  · have h := h.2 c3
    obtain ⟨s6, h⟩ := h
    refine go_iload_n 3 dX9_swap_9 rfl rfl ?_
    refine go_if_lt 23 dX9_swap_10 (by decide) s6 (fun c7 => ?_) (fun c7 => ?_)
    · have h := h.1 c7
      refine go_aload_n 0 dX9_swap_23 rfl rfl ?_
      refine go_iconst dX9_swap_24 ?_
      refine go_vIp (M := MX9_none) [vI 1] [] mv_X9_130 (hL.1 0 _ rfl) rfl (by decide) ⟨Nat.le_of_ble_eq_true rfl, Nat.le_of_ble_eq_true rfl⟩ ⟨Nat.zero_le _, Nat.zero_le _⟩ rfl rfl (Nat.le_of_ble_eq_true rfl) dX9_swap_25 (p_X9_none hL (by decide)) ?_
      exact go_ireturn (Nat.zero_le _) (Nat.zero_le _) rfl dX9_swap_28 h
    · have h := h.2 c7
      obtain ⟨s10, h⟩ := h
      refine go_iload 4 dX9_swap_13 rfl ?_
      refine go_iconst dX9_swap_15 ?_
      refine go_iconst dX9_swap_16 ?_
      refine go_sIp (M := MX9_isWithin) [vI v4, vI 0, vI 1] [] ms_X9_107 ⟨Nat.le_of_ble_eq_true rfl, Nat.le_of_ble_eq_true rfl⟩ ⟨Nat.zero_le _, Nat.zero_le _⟩ rfl rfl (Nat.le_of_ble_eq_true rfl) dX9_swap_17 (p_X9_isWithin hL s10 (by decide) (by decide)) ?_
      refine go_ifb_ne 29 dX9_swap_20 (by decide) (fun c12 => ?_) (fun c12 => ?_)
      · have h := h.1 c12
        refine go_aload_n 0 dX9_swap_29 rfl rfl ?_
        refine go_getR 5 f_X9_43 rfl (hL.1 0 _ rfl) (hL.2.1 0 5 _ rfl (by decide)) dX9_swap_30 ?_
        refine go_vM (M := MX5_ready) [] [] mv_X9_260 (hL.1 42 _ rfl) rfl (by decide) ⟨Nat.le_of_ble_eq_true rfl, Nat.le_of_ble_eq_true rfl⟩ ⟨Nat.le_of_eq (Nat.zero_add _), Nat.le_of_eq (Nat.zero_add _)⟩ rfl rfl (Nat.le_of_ble_eq_true rfl) dX9_swap_33 h (fun r14 G14 D14 h => ?_)
        obtain ⟨hL14, h⟩ := h
        refine go_aload_n 0 dX9_swap_36 rfl rfl ?_
        refine go_getR 8 f_X9_66 rfl (hL14.1 0 _ rfl) (hL14.2.1 0 8 _ rfl (by decide)) dX9_swap_37 ?_
        refine go_iload_n 1 dX9_swap_40 rfl rfl ?_
        refine go_iload_n 2 dX9_swap_41 rfl rfl ?_
        refine go_iload_n 3 dX9_swap_42 rfl rfl ?_
        refine go_vI (M := MX4_countSwaps) [vI v1, vI v2, vI v3] [] mv_X9_331 (hL14.1 56 _ rfl) rfl (by decide) ⟨Nat.le_of_ble_eq_true rfl, Nat.le_of_ble_eq_true rfl⟩ ⟨Nat.le_of_eq (Nat.zero_add _), Nat.le_of_eq (Nat.zero_add _)⟩ rfl rfl (Nat.le_of_ble_eq_true rfl) dX9_swap_43 h (fun r16 D16 h => ?_)
        obtain ⟨s17, h⟩ := h
        refine go_iload_n 3 dX9_swap_46 rfl rfl ?_
        refine go_icmp_gt 57 dX9_swap_47 (by decide) s17 s6 (fun c18 => ?_) (fun c18 => ?_)
        · have h := h.1 c18
          obtain ⟨s19, h⟩ := h
          refine go_aload_n 0 dX9_swap_57 rfl rfl ?_
          refine go_aload_n 0 dX9_swap_58 rfl rfl ?_
          refine go_getR 8 f_X9_66 rfl (hL14.1 0 _ rfl) (hL14.2.1 0 8 _ rfl (by decide)) dX9_swap_59 ?_
          refine go_getR 2 f_X9_335 rfl (hL14.1 56 _ rfl) (hL14.2.1 56 2 _ rfl (by decide)) dX9_swap_62 ?_
          refine go_iload 4 dX9_swap_65 rfl ?_
          refine go_iaload (hL14.1 57 _ rfl) (b := 3) rfl (by decide) s19 dX9_swap_67 ?_
          refine go_vIp (M := MX9_answer) [vI (D16 57 v4)] [] mv_X9_180 (hL14.1 0 _ rfl) rfl (by decide) ⟨Nat.le_of_ble_eq_true rfl, Nat.le_of_ble_eq_true rfl⟩ ⟨Nat.le_of_eq (Nat.zero_add _), Nat.le_of_eq (Nat.zero_add _)⟩ rfl rfl (Nat.le_of_ble_eq_true rfl) dX9_swap_68 (p_X9_answer hL14) ?_
          exact go_ireturn (Nat.le_of_eq (Nat.zero_add _)) (Nat.le_of_eq (Nat.zero_add _)) rfl dX9_swap_71 h
        · have h := h.2 c18
          refine go_aload_n 0 dX9_swap_50 rfl rfl ?_
          refine go_bipush dX9_swap_51 (by decide) ?_
          refine go_vIp (M := MX9_none) [vI 6] [] mv_X9_130 (hL14.1 0 _ rfl) rfl (by decide) ⟨Nat.le_of_ble_eq_true rfl, Nat.le_of_ble_eq_true rfl⟩ ⟨Nat.le_of_eq (Nat.zero_add _), Nat.le_of_eq (Nat.zero_add _)⟩ rfl rfl (Nat.le_of_ble_eq_true rfl) dX9_swap_53 (p_X9_none hL14 (by decide)) ?_
          exact go_ireturn (Nat.le_of_eq (Nat.zero_add _)) (Nat.le_of_eq (Nat.zero_add _)) rfl dX9_swap_56 h
      · have h := h.2 c12
        refine go_aload_n 0 dX9_swap_23 rfl rfl ?_
        refine go_iconst dX9_swap_24 ?_
        refine go_vIp (M := MX9_none) [vI 1] [] mv_X9_130 (hL.1 0 _ rfl) rfl (by decide) ⟨Nat.le_of_ble_eq_true rfl, Nat.le_of_ble_eq_true rfl⟩ ⟨Nat.zero_le _, Nat.zero_le _⟩ rfl rfl (Nat.le_of_ble_eq_true rfl) dX9_swap_25 (p_X9_none hL (by decide)) ?_
        exact go_ireturn (Nat.zero_le _) (Nat.zero_le _) rfl dX9_swap_28 h
theorem s_X9_ring {l : Launch} {E : Ev} {mc ms : Nat} {Q : Int → Sh → Dm → Prop} {G : Sh} {D : Dm} (hL : Lay G) {v1 v2 v3 v4 : Int}  (h : ((-2147483648 ≤ v1 ∧ v1 < 2147483648) ∧ (-2147483648 ≤ v2 ∧ v2 < 2147483648)) ∧ ((¬ (((0 ≤ v1) ∧ (v1 < (D 1 2))) ∧ (((0 ≤ v2) ∧ (v2 < (D 1 2))) ∧ (v1 ≠ v2))) → Q (-1) G (upd2 D 0 11 1)) ∧ ((((0 ≤ v1) ∧ (v1 < (D 1 2))) ∧ (((0 ≤ v2) ∧ (v2 < (D 1 2))) ∧ (v1 ≠ v2))) → ((-2147483648 ≤ v3 ∧ v3 < 2147483648)) ∧ ((¬ (((0 ≤ v2) ∧ (v2 < (D 1 2))) ∧ (((0 ≤ v3) ∧ (v3 < (D 1 2))) ∧ (v2 ≠ v3))) → Q (-1) G (upd2 D 0 11 1)) ∧ ((((0 ≤ v2) ∧ (v2 < (D 1 2))) ∧ (((0 ≤ v3) ∧ (v3 < (D 1 2))) ∧ (v2 ≠ v3))) → ((v1 = v3 → Q (-1) G (upd2 D 0 11 1)) ∧ (v1 ≠ v3 → ((-2147483648 ≤ v4 ∧ v4 < 2147483648)) ∧ ((((0 ≤ v4) ∧ (v4 ≤ 2)) → Ct l E MX5_ready 2 mc ms [vR E 42] G D (fun r19 G19 D19 => Lay G19 ∧ C0 l E MX4_findRing 0 [vR E 56, vI v1, vI v2, vI v3] G19 D19 (fun r21 D21 => ((-2147483648 ≤ r21 ∧ r21 < 2147483648)) ∧ ((r21 = 0 → Q (-1) G19 (upd2 D21 0 11 6)) ∧ (r21 ≠ 0 → ((0 ≤ v4 ∧ v4 < 3)) ∧ Q (D21 57 v4) G19 (upd2 D21 0 11 0)))))) ∧ (¬ ((0 ≤ v4) ∧ (v4 ≤ 2)) → Q (-1) G (upd2 D 0 11 1)))))))))) : Ct l E MX9_ring 0 mc ms [vR E 0, vI v1, vI v2, vI v3, vI v4] G D Q := by
  refine Ct.of (by decide) (Nat.le_of_ble_eq_true rfl) ?_
  show KX9_ring l E mc ms 0 0 Q 0 [(0, vR E 0), (1, vI v1), (2, vI v2), (3, vI v3), (4, vI v4)] G D
  obtain ⟨s1, h⟩ := h
  refine go_aload_n 0 dX9_ring_0 rfl rfl ?_
  refine go_iload_n 1 dX9_ring_1 rfl rfl ?_
  refine go_iload_n 2 dX9_ring_2 rfl rfl ?_
  refine go_vIp (M := MX9_isCouple) [vI v1, vI v2] [] mv_X9_327 (hL.1 0 _ rfl) rfl (by decide) ⟨Nat.le_of_ble_eq_true rfl, Nat.le_of_ble_eq_true rfl⟩ ⟨Nat.zero_le _, Nat.zero_le _⟩ rfl rfl (Nat.le_of_ble_eq_true rfl) dX9_ring_3 (p_X9_isCouple hL s1.1 s1.2) ?_
  refine go_ifb_eq 33 dX9_ring_6 (by decide) (fun c3 => ?_) (fun c3 => ?_)
  · have h := h.1 c3
    refine go_aload_n 0 dX9_ring_33 rfl rfl ?_
    refine go_iconst dX9_ring_34 ?_
    refine go_vIp (M := MX9_none) [vI 1] [] mv_X9_130 (hL.1 0 _ rfl) rfl (by decide) ⟨Nat.le_of_ble_eq_true rfl, Nat.le_of_ble_eq_true rfl⟩ ⟨Nat.zero_le _, Nat.zero_le _⟩ rfl rfl (Nat.le_of_ble_eq_true rfl) dX9_ring_35 (p_X9_none hL (by decide)) ?_
    exact go_ireturn (Nat.zero_le _) (Nat.zero_le _) rfl dX9_ring_38 h
  · have h := h.2 c3
    obtain ⟨s6, h⟩ := h
    refine go_aload_n 0 dX9_ring_9 rfl rfl ?_
    refine go_iload_n 2 dX9_ring_10 rfl rfl ?_
    refine go_iload_n 3 dX9_ring_11 rfl rfl ?_
    refine go_vIp (M := MX9_isCouple) [vI v2, vI v3] [] mv_X9_327 (hL.1 0 _ rfl) rfl (by decide) ⟨Nat.le_of_ble_eq_true rfl, Nat.le_of_ble_eq_true rfl⟩ ⟨Nat.zero_le _, Nat.zero_le _⟩ rfl rfl (Nat.le_of_ble_eq_true rfl) dX9_ring_12 (p_X9_isCouple hL s1.2 s6) ?_
    refine go_ifb_eq 33 dX9_ring_15 (by decide) (fun c8 => ?_) (fun c8 => ?_)
    · have h := h.1 c8
      refine go_aload_n 0 dX9_ring_33 rfl rfl ?_
      refine go_iconst dX9_ring_34 ?_
      refine go_vIp (M := MX9_none) [vI 1] [] mv_X9_130 (hL.1 0 _ rfl) rfl (by decide) ⟨Nat.le_of_ble_eq_true rfl, Nat.le_of_ble_eq_true rfl⟩ ⟨Nat.zero_le _, Nat.zero_le _⟩ rfl rfl (Nat.le_of_ble_eq_true rfl) dX9_ring_35 (p_X9_none hL (by decide)) ?_
      exact go_ireturn (Nat.zero_le _) (Nat.zero_le _) rfl dX9_ring_38 h
    · have h := h.2 c8
      refine go_iload_n 1 dX9_ring_18 rfl rfl ?_
      refine go_iload_n 3 dX9_ring_19 rfl rfl ?_
      refine go_icmp_eq 33 dX9_ring_20 (by decide) s1.1 s6 (fun c12 => ?_) (fun c12 => ?_)
      · have h := h.1 c12
        refine go_aload_n 0 dX9_ring_33 rfl rfl ?_
        refine go_iconst dX9_ring_34 ?_
        refine go_vIp (M := MX9_none) [vI 1] [] mv_X9_130 (hL.1 0 _ rfl) rfl (by decide) ⟨Nat.le_of_ble_eq_true rfl, Nat.le_of_ble_eq_true rfl⟩ ⟨Nat.zero_le _, Nat.zero_le _⟩ rfl rfl (Nat.le_of_ble_eq_true rfl) dX9_ring_35 (p_X9_none hL (by decide)) ?_
        exact go_ireturn (Nat.zero_le _) (Nat.zero_le _) rfl dX9_ring_38 h
      · have h := h.2 c12
        obtain ⟨s15, h⟩ := h
        refine go_iload 4 dX9_ring_23 rfl ?_
        refine go_iconst dX9_ring_25 ?_
        refine go_iconst dX9_ring_26 ?_
        refine go_sIp (M := MX9_isWithin) [vI v4, vI 0, vI 2] [] ms_X9_107 ⟨Nat.le_of_ble_eq_true rfl, Nat.le_of_ble_eq_true rfl⟩ ⟨Nat.zero_le _, Nat.zero_le _⟩ rfl rfl (Nat.le_of_ble_eq_true rfl) dX9_ring_27 (p_X9_isWithin hL s15 (by decide) (by decide)) ?_
        refine go_ifb_ne 39 dX9_ring_30 (by decide) (fun c17 => ?_) (fun c17 => ?_)
        · have h := h.1 c17
          refine go_aload_n 0 dX9_ring_39 rfl rfl ?_
          refine go_getR 5 f_X9_43 rfl (hL.1 0 _ rfl) (hL.2.1 0 5 _ rfl (by decide)) dX9_ring_40 ?_
          refine go_vM (M := MX5_ready) [] [] mv_X9_260 (hL.1 42 _ rfl) rfl (by decide) ⟨Nat.le_of_ble_eq_true rfl, Nat.le_of_ble_eq_true rfl⟩ ⟨Nat.le_of_eq (Nat.zero_add _), Nat.le_of_eq (Nat.zero_add _)⟩ rfl rfl (Nat.le_of_ble_eq_true rfl) dX9_ring_43 h (fun r19 G19 D19 h => ?_)
          obtain ⟨hL19, h⟩ := h
          refine go_aload_n 0 dX9_ring_46 rfl rfl ?_
          refine go_getR 8 f_X9_66 rfl (hL19.1 0 _ rfl) (hL19.2.1 0 8 _ rfl (by decide)) dX9_ring_47 ?_
          refine go_iload_n 1 dX9_ring_50 rfl rfl ?_
          refine go_iload_n 2 dX9_ring_51 rfl rfl ?_
          refine go_iload_n 3 dX9_ring_52 rfl rfl ?_
          refine go_vI (M := MX4_findRing) [vI v1, vI v2, vI v3] [] mv_X9_338 (hL19.1 56 _ rfl) rfl (by decide) ⟨Nat.le_of_ble_eq_true rfl, Nat.le_of_ble_eq_true rfl⟩ ⟨Nat.le_of_eq (Nat.zero_add _), Nat.le_of_eq (Nat.zero_add _)⟩ rfl rfl (Nat.le_of_ble_eq_true rfl) dX9_ring_53 h (fun r21 D21 h => ?_)
          obtain ⟨s22, h⟩ := h
          refine go_if_eq 76 dX9_ring_56 (by decide) s22 (fun c23 => ?_) (fun c23 => ?_)
          · have h := h.1 c23
            refine go_aload_n 0 dX9_ring_76 rfl rfl ?_
            refine go_bipush dX9_ring_77 (by decide) ?_
            refine go_vIp (M := MX9_none) [vI 6] [] mv_X9_130 (hL19.1 0 _ rfl) rfl (by decide) ⟨Nat.le_of_ble_eq_true rfl, Nat.le_of_ble_eq_true rfl⟩ ⟨Nat.le_of_eq (Nat.zero_add _), Nat.le_of_eq (Nat.zero_add _)⟩ rfl rfl (Nat.le_of_ble_eq_true rfl) dX9_ring_79 (p_X9_none hL19 (by decide)) ?_
            exact go_ireturn (Nat.le_of_eq (Nat.zero_add _)) (Nat.le_of_eq (Nat.zero_add _)) rfl dX9_ring_82 h
          · have h := h.2 c23
            obtain ⟨s26, h⟩ := h
            refine go_aload_n 0 dX9_ring_59 rfl rfl ?_
            refine go_aload_n 0 dX9_ring_60 rfl rfl ?_
            refine go_getR 8 f_X9_66 rfl (hL19.1 0 _ rfl) (hL19.2.1 0 8 _ rfl (by decide)) dX9_ring_61 ?_
            refine go_getR 2 f_X9_335 rfl (hL19.1 56 _ rfl) (hL19.2.1 56 2 _ rfl (by decide)) dX9_ring_64 ?_
            refine go_iload 4 dX9_ring_67 rfl ?_
            refine go_iaload (hL19.1 57 _ rfl) (b := 3) rfl (by decide) s26 dX9_ring_69 ?_
            refine go_vIp (M := MX9_answer) [vI (D21 57 v4)] [] mv_X9_180 (hL19.1 0 _ rfl) rfl (by decide) ⟨Nat.le_of_ble_eq_true rfl, Nat.le_of_ble_eq_true rfl⟩ ⟨Nat.le_of_eq (Nat.zero_add _), Nat.le_of_eq (Nat.zero_add _)⟩ rfl rfl (Nat.le_of_ble_eq_true rfl) dX9_ring_70 (p_X9_answer hL19) ?_
            refine go_goto 82 dX9_ring_73 (by decide) ?_
            exact go_ireturn (Nat.le_of_eq (Nat.zero_add _)) (Nat.le_of_eq (Nat.zero_add _)) rfl dX9_ring_82 h
        · have h := h.2 c17
          refine go_aload_n 0 dX9_ring_33 rfl rfl ?_
          refine go_iconst dX9_ring_34 ?_
          refine go_vIp (M := MX9_none) [vI 1] [] mv_X9_130 (hL.1 0 _ rfl) rfl (by decide) ⟨Nat.le_of_ble_eq_true rfl, Nat.le_of_ble_eq_true rfl⟩ ⟨Nat.zero_le _, Nat.zero_le _⟩ rfl rfl (Nat.le_of_ble_eq_true rfl) dX9_ring_35 (p_X9_none hL (by decide)) ?_
          exact go_ireturn (Nat.zero_le _) (Nat.zero_le _) rfl dX9_ring_38 h
theorem s_X9_settle {l : Launch} {E : Ev} {mc ms : Nat} {Q : Int → Sh → Dm → Prop} {G : Sh} {D : Dm} (hL : Lay G)  (h : Ct l E MX5_ready 2 mc ms [vR E 42] G D (fun r2 G2 D2 => Lay G2 ∧ KX9_settle l E mc ms (0 + mc) (0 + ms) Q 9 [(0, vR E 0), (1, vI 0)] G2 D2)) : Ct l E MX9_settle 0 mc ms [vR E 0] G D Q := by
  refine Ct.of (by decide) (Nat.le_of_ble_eq_true rfl) ?_
  show KX9_settle l E mc ms 0 0 Q 0 [(0, vR E 0)] G D
  refine go_aload_n 0 dX9_settle_0 rfl rfl ?_
  refine go_getR 5 f_X9_43 rfl (hL.1 0 _ rfl) (hL.2.1 0 5 _ rfl (by decide)) dX9_settle_1 ?_
  refine go_vM (M := MX5_ready) [] [] mv_X9_260 (hL.1 42 _ rfl) rfl (by decide) ⟨Nat.le_of_ble_eq_true rfl, Nat.le_of_ble_eq_true rfl⟩ ⟨Nat.le_of_eq (Nat.zero_add _), Nat.le_of_eq (Nat.zero_add _)⟩ rfl rfl (Nat.le_of_ble_eq_true rfl) dX9_settle_4 h (fun r2 G2 D2 h => ?_)
  obtain ⟨hL2, h⟩ := h
  refine go_iconst dX9_settle_7 ?_
  refine go_istore_n [1, 0] (L' := [(0, vR E 0), (1, vI 0)]) dX9_settle_8 rfl (by decide) rfl ?_
  exact h
theorem s_X9_settle_9 {l : Launch} {E : Ev} {mc ms k n : Nat} {Q : Int → Sh → Dm → Prop} {G : Sh} {D : Dm} (hL : Lay G) (hk : k ≤ mc) (hn : n ≤ ms) {v1 : Int}  (h : ((-2147483648 ≤ v1 ∧ v1 < 2147483648)) ∧ ((100 ≤ v1 → Q v1 G (upd2 D 0 11 0)) ∧ (v1 < 100 → C0 l E MX4_swapFirst 0 [vR E 56] G D (fun r6 D6 => ((-2147483648 ≤ r6 ∧ r6 < 2147483648)) ∧ ((r6 = 0 → Q v1 G (upd2 D6 0 11 0)) ∧ (r6 ≠ 0 → KX9_settle l E mc ms k n Q 9 [(0, vR E 0), (1, vI (v1 + 1))] G D6)))))) : KX9_settle l E mc ms k n Q 9 [(0, vR E 0), (1, vI v1)] G D := by
  obtain ⟨s1, h⟩ := h
  refine go_iload_n 1 dX9_settle_9 rfl rfl ?_
  refine go_bipush dX9_settle_10 (by decide) ?_
  refine go_icmp_ge 31 dX9_settle_12 (by decide) s1 (by decide) (fun c2 => ?_) (fun c2 => ?_)
  · have h := h.1 c2
    refine go_aload_n 0 dX9_settle_31 rfl rfl ?_
    refine go_iload_n 1 dX9_settle_32 rfl rfl ?_
    refine go_vIp (M := MX9_answer) [vI v1] [] mv_X9_180 (hL.1 0 _ rfl) rfl (by decide) ⟨Nat.le_of_ble_eq_true rfl, Nat.le_of_ble_eq_true rfl⟩ ⟨hk, hn⟩ rfl rfl (Nat.le_of_ble_eq_true rfl) dX9_settle_33 (p_X9_answer hL) ?_
    exact go_ireturn hk hn rfl dX9_settle_36 h
  · have h := h.2 c2
    refine go_aload_n 0 dX9_settle_15 rfl rfl ?_
    refine go_getR 8 f_X9_66 rfl (hL.1 0 _ rfl) (hL.2.1 0 8 _ rfl (by decide)) dX9_settle_16 ?_
    refine go_vI (M := MX4_swapFirst) [] [] mv_X9_341 (hL.1 56 _ rfl) rfl (by decide) ⟨Nat.le_of_ble_eq_true rfl, Nat.le_of_ble_eq_true rfl⟩ ⟨hk, hn⟩ rfl rfl (Nat.le_of_ble_eq_true rfl) dX9_settle_19 h (fun r6 D6 h => ?_)
    obtain ⟨s7, h⟩ := h
    refine go_if_eq 31 dX9_settle_22 (by decide) s7 (fun c8 => ?_) (fun c8 => ?_)
    · have h := h.1 c8
      refine go_aload_n 0 dX9_settle_31 rfl rfl ?_
      refine go_iload_n 1 dX9_settle_32 rfl rfl ?_
      refine go_vIp (M := MX9_answer) [vI v1] [] mv_X9_180 (hL.1 0 _ rfl) rfl (by decide) ⟨Nat.le_of_ble_eq_true rfl, Nat.le_of_ble_eq_true rfl⟩ ⟨hk, hn⟩ rfl rfl (Nat.le_of_ble_eq_true rfl) dX9_settle_33 (p_X9_answer hL) ?_
      exact go_ireturn hk hn rfl dX9_settle_36 h
    · have h := h.2 c8
      refine go_iinc 1 [1, 0] (L' := [(0, vR E 0), (1, vI (v1 + 1))]) dX9_settle_25 (by decide) rfl rfl ?_
      refine go_goto 9 dX9_settle_28 (by decide) ?_
      exact h
theorem s_X9_give {l : Launch} {E : Ev} {mc ms : Nat} {Q : Int → Sh → Dm → Prop} {G : Sh} {D : Dm} (hL : Lay G) {v1 : Int}  (h : ((-2147483648 ≤ v1 ∧ v1 < 2147483648)) ∧ ((((0 ≤ v1) ∧ (v1 ≤ 1)) → (((((D 1 0) ≤ 8) ∧ ((D 1 2) ≤ 3)) → (((D 1 2) ≠ 0 → Ct l E MX5_ready 2 mc ms [vR E 42] G D (fun r11 G11 D11 => Lay G11 ∧ C0 l E MX3_findLeast 1 [vR E 60, vI v1] G11 D11 (fun r13 D13 => ((v1 ≠ 0 → C0 l E MX9_tell 0 [vR E 0, vJ r13, vJ 1] G11 D13 (fun r17 D17 => ((r17 = 0 ∨ r17 = 1)) ∧ Q r17 G11 D17)) ∧ (v1 = 0 → C0 l E MX9_tell 0 [vR E 0, vJ r13, vJ (jSl 1 (4 * (D13 1 1)))] G11 D13 (fun r21 D21 => ((r21 = 0 ∨ r21 = 1)) ∧ Q r21 G11 D21)))))) ∧ ((D 1 2) = 0 → Q 0 G (upd2 D 0 11 6)))) ∧ (¬ (((D 1 0) ≤ 8) ∧ ((D 1 2) ≤ 3)) → Q 0 G (upd2 D 0 11 4)))) ∧ (¬ ((0 ≤ v1) ∧ (v1 ≤ 1)) → Q 0 G (upd2 D 0 11 1)))) : Ct l E MX9_give 0 mc ms [vR E 0, vI v1] G D Q := by
  refine Ct.of (by decide) (Nat.le_of_ble_eq_true rfl) ?_
  show KX9_give l E mc ms 0 0 Q 0 [(0, vR E 0), (1, vI v1)] G D
  obtain ⟨s1, h⟩ := h
  refine go_iload_n 1 dX9_give_0 rfl rfl ?_
  refine go_iconst dX9_give_1 ?_
  refine go_iconst dX9_give_2 ?_
  refine go_sIp (M := MX9_isWithin) [vI v1, vI 0, vI 1] [] ms_X9_107 ⟨Nat.le_of_ble_eq_true rfl, Nat.le_of_ble_eq_true rfl⟩ ⟨Nat.zero_le _, Nat.zero_le _⟩ rfl rfl (Nat.le_of_ble_eq_true rfl) dX9_give_3 (p_X9_isWithin hL s1 (by decide) (by decide)) ?_
  refine go_ifb_ne 15 dX9_give_6 (by decide) (fun c3 => ?_) (fun c3 => ?_)
  · have h := h.1 c3
    refine go_aload_n 0 dX9_give_15 rfl rfl ?_
    refine go_getR 9 f_X9_73 rfl (hL.1 0 _ rfl) (hL.2.1 0 9 _ rfl (by decide)) dX9_give_16 ?_
    refine go_vIp (M := MX3_isSmallEnough) [] [] mv_X9_344 (hL.1 60 _ rfl) rfl (by decide) ⟨Nat.le_of_ble_eq_true rfl, Nat.le_of_ble_eq_true rfl⟩ ⟨Nat.zero_le _, Nat.zero_le _⟩ rfl rfl (Nat.le_of_ble_eq_true rfl) dX9_give_19 (p_X3_isSmallEnough hL) ?_
    refine go_ifb_ne 31 dX9_give_22 (by decide) (fun c6 => ?_) (fun c6 => ?_)
    · have h := h.1 c6
      refine go_aload_n 0 dX9_give_31 rfl rfl ?_
      refine go_getR 0 f_X9_10 rfl (hL.1 0 _ rfl) (hL.2.1 0 0 _ rfl (by decide)) dX9_give_32 ?_
      refine go_getI 2 (i := 2) f_X9_186 rfl (hL.1 1 _ rfl) dX9_give_35 ?_
      refine go_rngI (c := 1) (i := 2) (hL.1 1 _ rfl) rfl (fun (q8 : -2147483648 ≤ (D 1 2) ∧ (D 1 2) < 2147483648) => ?_)
      refine go_if_ne 48 dX9_give_38 (by decide) q8 (fun c9 => ?_) (fun c9 => ?_)
      · have h := h.1 c9
        refine go_aload_n 0 dX9_give_48 rfl rfl ?_
        refine go_getR 5 f_X9_43 rfl (hL.1 0 _ rfl) (hL.2.1 0 5 _ rfl (by decide)) dX9_give_49 ?_
        refine go_vM (M := MX5_ready) [] [] mv_X9_260 (hL.1 42 _ rfl) rfl (by decide) ⟨Nat.le_of_ble_eq_true rfl, Nat.le_of_ble_eq_true rfl⟩ ⟨Nat.le_of_eq (Nat.zero_add _), Nat.le_of_eq (Nat.zero_add _)⟩ rfl rfl (Nat.le_of_ble_eq_true rfl) dX9_give_52 h (fun r11 G11 D11 h => ?_)
        obtain ⟨hL11, h⟩ := h
        refine go_aload_n 0 dX9_give_55 rfl rfl ?_
        refine go_getR 9 f_X9_73 rfl (hL11.1 0 _ rfl) (hL11.2.1 0 9 _ rfl (by decide)) dX9_give_56 ?_
        refine go_iload_n 1 dX9_give_59 rfl rfl ?_
        refine go_vJ (M := MX3_findLeast) [vI v1] [] mv_X9_347 (hL11.1 60 _ rfl) rfl (by decide) ⟨Nat.le_of_ble_eq_true rfl, Nat.le_of_ble_eq_true rfl⟩ ⟨Nat.le_of_eq (Nat.zero_add _), Nat.le_of_eq (Nat.zero_add _)⟩ rfl rfl (Nat.le_of_ble_eq_true rfl) dX9_give_60 h (fun r13 D13 h => ?_)
        refine go_lstore_n [1, 2, 0] (L' := [(0, vR E 0), (1, vI v1), (2, vJ r13)]) dX9_give_63 rfl (by decide) rfl ?_
        refine go_aload_n 0 dX9_give_64 rfl rfl ?_
        refine go_lload_n 2 dX9_give_65 rfl rfl ?_
        refine go_iload_n 1 dX9_give_66 rfl rfl ?_
        refine go_if_ne 80 dX9_give_67 (by decide) s1 (fun c15 => ?_) (fun c15 => ?_)
        · have h := h.1 c15
          refine go_lconst (x := 1) dX9_give_80 rfl ?_
          refine go_vI (M := MX9_tell) [vJ r13, vJ 1] [] mv_X9_280 (hL11.1 0 _ rfl) rfl (by decide) ⟨Nat.le_of_ble_eq_true rfl, Nat.le_of_ble_eq_true rfl⟩ ⟨Nat.le_of_eq (Nat.zero_add _), Nat.le_of_eq (Nat.zero_add _)⟩ rfl rfl (Nat.le_of_ble_eq_true rfl) dX9_give_81 h (fun r17 D17 h => ?_)
          obtain ⟨s18, h⟩ := h
          exact go_zreturn (Nat.le_of_eq (Nat.zero_add _)) (Nat.le_of_eq (Nat.zero_add _)) rfl s18 dX9_give_84 h
        · have h := h.2 c15
          refine go_aload_n 0 dX9_give_70 rfl rfl ?_
          refine go_getR 5 f_X9_43 rfl (hL11.1 0 _ rfl) (hL11.2.1 0 5 _ rfl (by decide)) dX9_give_71 ?_
          refine go_vJp (M := MX5_wholeWeight) [] [vJ r13, vR E 0] mv_X9_276 (hL11.1 42 _ rfl) rfl (by decide) ⟨Nat.le_of_ble_eq_true rfl, Nat.le_of_ble_eq_true rfl⟩ ⟨Nat.le_of_eq (Nat.zero_add _), Nat.le_of_eq (Nat.zero_add _)⟩ rfl rfl (Nat.le_of_ble_eq_true rfl) dX9_give_74 (p_X5_wholeWeight hL11) ?_
          refine go_goto 81 dX9_give_77 (by decide) ?_
          refine go_vI (M := MX9_tell) [vJ r13, vJ (jSl 1 (4 * (D13 1 1)))] [] mv_X9_280 (hL11.1 0 _ rfl) rfl (by decide) ⟨Nat.le_of_ble_eq_true rfl, Nat.le_of_ble_eq_true rfl⟩ ⟨Nat.le_of_eq (Nat.zero_add _), Nat.le_of_eq (Nat.zero_add _)⟩ rfl rfl (Nat.le_of_ble_eq_true rfl) dX9_give_81 h (fun r21 D21 h => ?_)
          obtain ⟨s22, h⟩ := h
          exact go_zreturn (Nat.le_of_eq (Nat.zero_add _)) (Nat.le_of_eq (Nat.zero_add _)) rfl s22 dX9_give_84 h
      · have h := h.2 c9
        refine go_aload_n 0 dX9_give_41 rfl rfl ?_
        refine go_bipush dX9_give_42 (by decide) ?_
        refine go_vIp (M := MX9_refuse) [vI 6] [] mv_X9_111 (hL.1 0 _ rfl) rfl (by decide) ⟨Nat.le_of_ble_eq_true rfl, Nat.le_of_ble_eq_true rfl⟩ ⟨Nat.zero_le _, Nat.zero_le _⟩ rfl rfl (Nat.le_of_ble_eq_true rfl) dX9_give_44 (p_X9_refuse hL (by decide)) ?_
        exact go_zreturn (Nat.zero_le _) (Nat.zero_le _) rfl (by decide) dX9_give_47 h
    · have h := h.2 c6
      refine go_aload_n 0 dX9_give_25 rfl rfl ?_
      refine go_iconst dX9_give_26 ?_
      refine go_vIp (M := MX9_refuse) [vI 4] [] mv_X9_111 (hL.1 0 _ rfl) rfl (by decide) ⟨Nat.le_of_ble_eq_true rfl, Nat.le_of_ble_eq_true rfl⟩ ⟨Nat.zero_le _, Nat.zero_le _⟩ rfl rfl (Nat.le_of_ble_eq_true rfl) dX9_give_27 (p_X9_refuse hL (by decide)) ?_
      exact go_zreturn (Nat.zero_le _) (Nat.zero_le _) rfl (by decide) dX9_give_30 h
  · have h := h.2 c3
    refine go_aload_n 0 dX9_give_9 rfl rfl ?_
    refine go_iconst dX9_give_10 ?_
    refine go_vIp (M := MX9_refuse) [vI 1] [] mv_X9_111 (hL.1 0 _ rfl) rfl (by decide) ⟨Nat.le_of_ble_eq_true rfl, Nat.le_of_ble_eq_true rfl⟩ ⟨Nat.zero_le _, Nat.zero_le _⟩ rfl rfl (Nat.le_of_ble_eq_true rfl) dX9_give_11 (p_X9_refuse hL (by decide)) ?_
    exact go_zreturn (Nat.zero_le _) (Nat.zero_le _) rfl (by decide) dX9_give_14 h
theorem s_X9_given {l : Launch} {E : Ev} {Q : Int → Sh → Dm → Prop} {G : Sh} {D : Dm} (hL : Lay G) {v1 : Int}  (h : (((D 60 7) ≠ (-1) → ((-2147483648 ≤ v1 ∧ v1 < 2147483648)) ∧ ((v1 < 0 → Q (-1) G (upd2 D 0 11 1)) ∧ (0 ≤ v1 → ((v1 < (D 60 7) → ((0 ≤ v1 ∧ v1 < 8)) ∧ Q (D 65 v1) G (upd2 D 0 11 0)) ∧ ((D 60 7) ≤ v1 → Q (-1) G (upd2 D 0 11 1)))))) ∧ ((D 60 7) = (-1) → Q (-1) G (upd2 D 0 11 6)))) : Ct l E MX9_given 0 0 0 [vR E 0, vI v1] G D Q := by
  refine Ct.of (by decide) (Nat.le_of_ble_eq_true rfl) ?_
  show KX9_given l E Q 0 [(0, vR E 0), (1, vI v1)] G D
  refine go_aload_n 0 dX9_given_0 rfl rfl ?_
  refine go_getR 9 f_X9_73 rfl (hL.1 0 _ rfl) (hL.2.1 0 9 _ rfl (by decide)) dX9_given_1 ?_
  refine go_getI 7 (i := 7) f_X9_350 rfl (hL.1 60 _ rfl) dX9_given_4 ?_
  refine go_iconst dX9_given_7 ?_
  refine go_rngI (c := 60) (i := 7) (hL.1 60 _ rfl) rfl (fun (q2 : -2147483648 ≤ (D 60 7) ∧ (D 60 7) < 2147483648) => ?_)
  refine go_icmp_ne 18 dX9_given_8 (by decide) q2 (by decide) (fun c3 => ?_) (fun c3 => ?_)
  · have h := h.1 c3
    obtain ⟨s4, h⟩ := h
    refine go_iload_n 1 dX9_given_18 rfl rfl ?_
    refine go_if_lt 33 dX9_given_19 (by decide) s4 (fun c5 => ?_) (fun c5 => ?_)
    · have h := h.1 c5
      refine go_aload_n 0 dX9_given_33 rfl rfl ?_
      refine go_iconst dX9_given_34 ?_
      refine go_vIp (M := MX9_none) [vI 1] [] mv_X9_130 (hL.1 0 _ rfl) rfl (by decide) ⟨Nat.le_of_ble_eq_true rfl, Nat.le_of_ble_eq_true rfl⟩ ⟨Nat.le_refl _, Nat.le_refl _⟩ rfl rfl (Nat.le_of_ble_eq_true rfl) dX9_given_35 (p_X9_none hL (by decide)) ?_
      exact go_ireturn (Nat.le_refl _) (Nat.le_refl _) rfl dX9_given_38 h
    · have h := h.2 c5
      refine go_iload_n 1 dX9_given_22 rfl rfl ?_
      refine go_aload_n 0 dX9_given_23 rfl rfl ?_
      refine go_getR 9 f_X9_73 rfl (hL.1 0 _ rfl) (hL.2.1 0 9 _ rfl (by decide)) dX9_given_24 ?_
      refine go_getI 7 (i := 7) f_X9_350 rfl (hL.1 60 _ rfl) dX9_given_27 ?_
      refine go_icmp_lt 39 dX9_given_30 (by decide) s4 q2 (fun c9 => ?_) (fun c9 => ?_)
      · have h := h.1 c9
        obtain ⟨s10, h⟩ := h
        refine go_aload_n 0 dX9_given_39 rfl rfl ?_
        refine go_aload_n 0 dX9_given_40 rfl rfl ?_
        refine go_getR 9 f_X9_73 rfl (hL.1 0 _ rfl) (hL.2.1 0 9 _ rfl (by decide)) dX9_given_41 ?_
        refine go_getR 6 f_X9_353 rfl (hL.1 60 _ rfl) (hL.2.1 60 6 _ rfl (by decide)) dX9_given_44 ?_
        refine go_iload_n 1 dX9_given_47 rfl rfl ?_
        refine go_iaload (hL.1 65 _ rfl) (b := 8) rfl (by decide) s10 dX9_given_48 ?_
        refine go_vIp (M := MX9_answer) [vI (D 65 v1)] [] mv_X9_180 (hL.1 0 _ rfl) rfl (by decide) ⟨Nat.le_of_ble_eq_true rfl, Nat.le_of_ble_eq_true rfl⟩ ⟨Nat.le_refl _, Nat.le_refl _⟩ rfl rfl (Nat.le_of_ble_eq_true rfl) dX9_given_49 (p_X9_answer hL) ?_
        exact go_ireturn (Nat.le_refl _) (Nat.le_refl _) rfl dX9_given_52 h
      · have h := h.2 c9
        refine go_aload_n 0 dX9_given_33 rfl rfl ?_
        refine go_iconst dX9_given_34 ?_
        refine go_vIp (M := MX9_none) [vI 1] [] mv_X9_130 (hL.1 0 _ rfl) rfl (by decide) ⟨Nat.le_of_ble_eq_true rfl, Nat.le_of_ble_eq_true rfl⟩ ⟨Nat.le_refl _, Nat.le_refl _⟩ rfl rfl (Nat.le_of_ble_eq_true rfl) dX9_given_35 (p_X9_none hL (by decide)) ?_
        exact go_ireturn (Nat.le_refl _) (Nat.le_refl _) rfl dX9_given_38 h
  · have h := h.2 c3
    refine go_aload_n 0 dX9_given_11 rfl rfl ?_
    refine go_bipush dX9_given_12 (by decide) ?_
    refine go_vIp (M := MX9_none) [vI 6] [] mv_X9_130 (hL.1 0 _ rfl) rfl (by decide) ⟨Nat.le_of_ble_eq_true rfl, Nat.le_of_ble_eq_true rfl⟩ ⟨Nat.le_refl _, Nat.le_refl _⟩ rfl rfl (Nat.le_of_ble_eq_true rfl) dX9_given_14 (p_X9_none hL (by decide)) ?_
    exact go_ireturn (Nat.le_refl _) (Nat.le_refl _) rfl dX9_given_17 h
theorem s_X9_narrow {l : Launch} {E : Ev} {mc ms : Nat} {Q : Int → Sh → Dm → Prop} {G : Sh} {D : Dm} (hL : Lay G) {v1 v2 : Int}  (h : ((-2147483648 ≤ v1 ∧ v1 < 2147483648)) ∧ ((¬ ((0 ≤ v1) ∧ (v1 < (D 1 2))) → Q (-1) G (upd2 D 0 11 1)) ∧ (((0 ≤ v1) ∧ (v1 < (D 1 2))) → ((-2147483648 ≤ v2 ∧ v2 < 2147483648)) ∧ ((((1 ≤ v2) ∧ (v2 ≤ 16)) → Ct l E MX5_ready 2 mc ms [vR E 42] G D (fun r10 G10 D10 => Lay G10 ∧ C0 l E MX5_halvingsUntilHungry 0 [vR E 42, vI v1, vI v2] G10 D10 (fun r12 D12 => ((-2147483648 ≤ r12 ∧ r12 < 2147483648)) ∧ ((r12 ≠ (-1) → Q r12 G10 (upd2 D12 0 11 0)) ∧ (r12 = (-1) → Q (-1) G10 (upd2 D12 0 11 6)))))) ∧ (¬ ((1 ≤ v2) ∧ (v2 ≤ 16)) → Q (-1) G (upd2 D 0 11 1)))))) : Ct l E MX9_narrow 0 mc ms [vR E 0, vI v1, vI v2] G D Q := by
  refine Ct.of (by decide) (Nat.le_of_ble_eq_true rfl) ?_
  show KX9_narrow l E mc ms 0 0 Q 0 [(0, vR E 0), (1, vI v1), (2, vI v2)] G D
  obtain ⟨s1, h⟩ := h
  refine go_aload_n 0 dX9_narrow_0 rfl rfl ?_
  refine go_getR 0 f_X9_10 rfl (hL.1 0 _ rfl) (hL.2.1 0 0 _ rfl (by decide)) dX9_narrow_1 ?_
  refine go_iload_n 1 dX9_narrow_4 rfl rfl ?_
  refine go_vIp (M := MX8_hasFamily) [vI v1] [] mv_X9_222 (hL.1 1 _ rfl) rfl (by decide) ⟨Nat.le_of_ble_eq_true rfl, Nat.le_of_ble_eq_true rfl⟩ ⟨Nat.zero_le _, Nat.zero_le _⟩ rfl rfl (Nat.le_of_ble_eq_true rfl) dX9_narrow_5 (p_X8_hasFamily hL s1) ?_
  refine go_ifb_eq 21 dX9_narrow_8 (by decide) (fun c3 => ?_) (fun c3 => ?_)
  · have h := h.1 c3
    refine go_aload_n 0 dX9_narrow_21 rfl rfl ?_
    refine go_iconst dX9_narrow_22 ?_
    refine go_vIp (M := MX9_none) [vI 1] [] mv_X9_130 (hL.1 0 _ rfl) rfl (by decide) ⟨Nat.le_of_ble_eq_true rfl, Nat.le_of_ble_eq_true rfl⟩ ⟨Nat.zero_le _, Nat.zero_le _⟩ rfl rfl (Nat.le_of_ble_eq_true rfl) dX9_narrow_23 (p_X9_none hL (by decide)) ?_
    exact go_ireturn (Nat.zero_le _) (Nat.zero_le _) rfl dX9_narrow_26 h
  · have h := h.2 c3
    obtain ⟨s6, h⟩ := h
    refine go_iload_n 2 dX9_narrow_11 rfl rfl ?_
    refine go_iconst dX9_narrow_12 ?_
    refine go_bipush dX9_narrow_13 (by decide) ?_
    refine go_sIp (M := MX9_isWithin) [vI v2, vI 1, vI 16] [] ms_X9_107 ⟨Nat.le_of_ble_eq_true rfl, Nat.le_of_ble_eq_true rfl⟩ ⟨Nat.zero_le _, Nat.zero_le _⟩ rfl rfl (Nat.le_of_ble_eq_true rfl) dX9_narrow_15 (p_X9_isWithin hL s6 (by decide) (by decide)) ?_
    refine go_ifb_ne 27 dX9_narrow_18 (by decide) (fun c8 => ?_) (fun c8 => ?_)
    · have h := h.1 c8
      refine go_aload_n 0 dX9_narrow_27 rfl rfl ?_
      refine go_getR 5 f_X9_43 rfl (hL.1 0 _ rfl) (hL.2.1 0 5 _ rfl (by decide)) dX9_narrow_28 ?_
      refine go_vM (M := MX5_ready) [] [] mv_X9_260 (hL.1 42 _ rfl) rfl (by decide) ⟨Nat.le_of_ble_eq_true rfl, Nat.le_of_ble_eq_true rfl⟩ ⟨Nat.le_of_eq (Nat.zero_add _), Nat.le_of_eq (Nat.zero_add _)⟩ rfl rfl (Nat.le_of_ble_eq_true rfl) dX9_narrow_31 h (fun r10 G10 D10 h => ?_)
      obtain ⟨hL10, h⟩ := h
      refine go_aload_n 0 dX9_narrow_34 rfl rfl ?_
      refine go_getR 5 f_X9_43 rfl (hL10.1 0 _ rfl) (hL10.2.1 0 5 _ rfl (by decide)) dX9_narrow_35 ?_
      refine go_iload_n 1 dX9_narrow_38 rfl rfl ?_
      refine go_iload_n 2 dX9_narrow_39 rfl rfl ?_
      refine go_vI (M := MX5_halvingsUntilHungry) [vI v1, vI v2] [] mv_X9_356 (hL10.1 42 _ rfl) rfl (by decide) ⟨Nat.le_of_ble_eq_true rfl, Nat.le_of_ble_eq_true rfl⟩ ⟨Nat.le_of_eq (Nat.zero_add _), Nat.le_of_eq (Nat.zero_add _)⟩ rfl rfl (Nat.le_of_ble_eq_true rfl) dX9_narrow_40 h (fun r12 D12 h => ?_)
      obtain ⟨s13, h⟩ := h
      refine go_istore_n [1, 2, 3, 0] (L' := [(0, vR E 0), (1, vI v1), (2, vI v2), (3, vI r12)]) dX9_narrow_43 rfl (by decide) rfl ?_
      refine go_iload_n 3 dX9_narrow_44 rfl rfl ?_
      refine go_iconst dX9_narrow_45 ?_
      refine go_icmp_ne 58 dX9_narrow_46 (by decide) s13 (by decide) (fun c14 => ?_) (fun c14 => ?_)
      · have h := h.1 c14
        refine go_aload_n 0 dX9_narrow_58 rfl rfl ?_
        refine go_iload_n 3 dX9_narrow_59 rfl rfl ?_
        refine go_vIp (M := MX9_answer) [vI r12] [] mv_X9_180 (hL10.1 0 _ rfl) rfl (by decide) ⟨Nat.le_of_ble_eq_true rfl, Nat.le_of_ble_eq_true rfl⟩ ⟨Nat.le_of_eq (Nat.zero_add _), Nat.le_of_eq (Nat.zero_add _)⟩ rfl rfl (Nat.le_of_ble_eq_true rfl) dX9_narrow_60 (p_X9_answer hL10) ?_
        exact go_ireturn (Nat.le_of_eq (Nat.zero_add _)) (Nat.le_of_eq (Nat.zero_add _)) rfl dX9_narrow_63 h
      · have h := h.2 c14
        refine go_aload_n 0 dX9_narrow_49 rfl rfl ?_
        refine go_bipush dX9_narrow_50 (by decide) ?_
        refine go_vIp (M := MX9_none) [vI 6] [] mv_X9_130 (hL10.1 0 _ rfl) rfl (by decide) ⟨Nat.le_of_ble_eq_true rfl, Nat.le_of_ble_eq_true rfl⟩ ⟨Nat.le_of_eq (Nat.zero_add _), Nat.le_of_eq (Nat.zero_add _)⟩ rfl rfl (Nat.le_of_ble_eq_true rfl) dX9_narrow_52 (p_X9_none hL10 (by decide)) ?_
        refine go_goto 63 dX9_narrow_55 (by decide) ?_
        exact go_ireturn (Nat.le_of_eq (Nat.zero_add _)) (Nat.le_of_eq (Nat.zero_add _)) rfl dX9_narrow_63 h
    · have h := h.2 c8
      refine go_aload_n 0 dX9_narrow_21 rfl rfl ?_
      refine go_iconst dX9_narrow_22 ?_
      refine go_vIp (M := MX9_none) [vI 1] [] mv_X9_130 (hL.1 0 _ rfl) rfl (by decide) ⟨Nat.le_of_ble_eq_true rfl, Nat.le_of_ble_eq_true rfl⟩ ⟨Nat.zero_le _, Nat.zero_le _⟩ rfl rfl (Nat.le_of_ble_eq_true rfl) dX9_narrow_23 (p_X9_none hL (by decide)) ?_
      exact go_ireturn (Nat.zero_le _) (Nat.zero_le _) rfl dX9_narrow_26 h
theorem s_X9_together {l : Launch} {E : Ev} {mc ms : Nat} {Q : Int → Sh → Dm → Prop} {G : Sh} {D : Dm} (hL : Lay G)  (h : Ct l E MX5_ready 2 mc ms [vR E 42] G D (fun r2 G2 D2 => Lay G2 ∧ C0 l E MX2_losersByPlace 0 [vR E 66] G2 D2 (fun r4 D4 => Q r4 G2 (upd2 D4 0 11 0)))) : Ct l E MX9_together 0 mc ms [vR E 0] G D Q := by
  refine Ct.of (by decide) (Nat.le_of_ble_eq_true rfl) ?_
  show KX9_together l E mc ms 0 0 Q 0 [(0, vR E 0)] G D
  refine go_aload_n 0 dX9_together_0 rfl rfl ?_
  refine go_getR 5 f_X9_43 rfl (hL.1 0 _ rfl) (hL.2.1 0 5 _ rfl (by decide)) dX9_together_1 ?_
  refine go_vM (M := MX5_ready) [] [] mv_X9_260 (hL.1 42 _ rfl) rfl (by decide) ⟨Nat.le_of_ble_eq_true rfl, Nat.le_of_ble_eq_true rfl⟩ ⟨Nat.le_of_eq (Nat.zero_add _), Nat.le_of_eq (Nat.zero_add _)⟩ rfl rfl (Nat.le_of_ble_eq_true rfl) dX9_together_4 h (fun r2 G2 D2 h => ?_)
  obtain ⟨hL2, h⟩ := h
  refine go_aload_n 0 dX9_together_7 rfl rfl ?_
  refine go_aload_n 0 dX9_together_8 rfl rfl ?_
  refine go_getR 10 f_X9_80 rfl (hL2.1 0 _ rfl) (hL2.2.1 0 10 _ rfl (by decide)) dX9_together_9 ?_
  refine go_vI (M := MX2_losersByPlace) [] [vR E 0] mv_X9_359 (hL2.1 66 _ rfl) rfl (by decide) ⟨Nat.le_of_ble_eq_true rfl, Nat.le_of_ble_eq_true rfl⟩ ⟨Nat.le_of_eq (Nat.zero_add _), Nat.le_of_eq (Nat.zero_add _)⟩ rfl rfl (Nat.le_of_ble_eq_true rfl) dX9_together_12 h (fun r4 D4 h => ?_)
  refine go_vIp (M := MX9_answer) [vI r4] [] mv_X9_180 (hL2.1 0 _ rfl) rfl (by decide) ⟨Nat.le_of_ble_eq_true rfl, Nat.le_of_ble_eq_true rfl⟩ ⟨Nat.le_of_eq (Nat.zero_add _), Nat.le_of_eq (Nat.zero_add _)⟩ rfl rfl (Nat.le_of_ble_eq_true rfl) dX9_together_15 (p_X9_answer hL2) ?_
  exact go_ireturn (Nat.le_of_eq (Nat.zero_add _)) (Nat.le_of_eq (Nat.zero_add _)) rfl dX9_together_18 h
theorem s_X9_whyNoYears {l : Launch} {E : Ev} {Q : Int → Sh → Dm → Prop} {G : Sh} {D : Dm} (hL : Lay G) {v1 v2 v3 : Int}  (h : ((-2147483648 ≤ v1 ∧ v1 < 2147483648)) ∧ ((¬ ((0 ≤ v1) ∧ (v1 < (D 1 2))) → Q 1 G D) ∧ (((0 ≤ v1) ∧ (v1 < (D 1 2))) → ((-2147483648 ≤ v2 ∧ v2 < 2147483648)) ∧ ((¬ ((0 ≤ v2) ∧ (v2 ≤ 3)) → Q 1 G D) ∧ (((0 ≤ v2) ∧ (v2 ≤ 3)) → ((-2147483648 ≤ v3 ∧ v3 < 2147483648)) ∧ ((((1 ≤ v3) ∧ (v3 ≤ 60)) → ((0 ≤ v2 ∧ v2 < 4)) ∧ ((¬ ((D 22 v2) = (-1)) → ((-9223372036854775808 ≤ (0 + v3) ∧ (0 + v3) < 9223372036854775808)) ∧ ((((0 + v3) ≤ (D 22 v2)) → KX9_whyNoYears l E Q 61 [(0, vR E 0), (1, vI v1), (2, vI v2), (3, vI v3), (4, vI 0)] G D) ∧ (¬ ((0 + v3) ≤ (D 22 v2)) → Q 3 G D))) ∧ (((D 22 v2) = (-1)) → Q 2 G D))) ∧ (¬ ((1 ≤ v3) ∧ (v3 ≤ 60)) → Q 1 G D))))))) : Ct l E MX9_whyNoYears 0 0 0 [vR E 0, vI v1, vI v2, vI v3] G D Q := by
  refine Ct.of (by decide) (Nat.le_of_ble_eq_true rfl) ?_
  show KX9_whyNoYears l E Q 0 [(0, vR E 0), (1, vI v1), (2, vI v2), (3, vI v3)] G D
  obtain ⟨s1, h⟩ := h
  refine go_aload_n 0 dX9_whyNoYears_0 rfl rfl ?_
  refine go_getR 0 f_X9_10 rfl (hL.1 0 _ rfl) (hL.2.1 0 0 _ rfl (by decide)) dX9_whyNoYears_1 ?_
  refine go_iload_n 1 dX9_whyNoYears_4 rfl rfl ?_
  refine go_vIp (M := MX8_hasFamily) [vI v1] [] mv_X9_222 (hL.1 1 _ rfl) rfl (by decide) ⟨Nat.le_of_ble_eq_true rfl, Nat.le_of_ble_eq_true rfl⟩ ⟨Nat.le_refl _, Nat.le_refl _⟩ rfl rfl (Nat.le_of_ble_eq_true rfl) dX9_whyNoYears_5 (p_X8_hasFamily hL s1) ?_
  refine go_ifb_eq 28 dX9_whyNoYears_8 (by decide) (fun c3 => ?_) (fun c3 => ?_)
  · have h := h.1 c3
    refine go_iconst dX9_whyNoYears_28 ?_
    exact go_ireturn (Nat.le_refl _) (Nat.le_refl _) rfl dX9_whyNoYears_29 h
  · have h := h.2 c3
    obtain ⟨s5, h⟩ := h
    refine go_iload_n 2 dX9_whyNoYears_11 rfl rfl ?_
    refine go_sIp (M := MX9_isTray) [vI v2] [] ms_X9_103 ⟨Nat.le_of_ble_eq_true rfl, Nat.le_of_ble_eq_true rfl⟩ ⟨Nat.le_refl _, Nat.le_refl _⟩ rfl rfl (Nat.le_of_ble_eq_true rfl) dX9_whyNoYears_12 (p_X9_isTray hL s5) ?_
    refine go_ifb_eq 28 dX9_whyNoYears_15 (by decide) (fun c7 => ?_) (fun c7 => ?_)
    · have h := h.1 c7
      refine go_iconst dX9_whyNoYears_28 ?_
      exact go_ireturn (Nat.le_refl _) (Nat.le_refl _) rfl dX9_whyNoYears_29 h
    · have h := h.2 c7
      obtain ⟨s9, h⟩ := h
      refine go_iload_n 3 dX9_whyNoYears_18 rfl rfl ?_
      refine go_iconst dX9_whyNoYears_19 ?_
      refine go_bipush dX9_whyNoYears_20 (by decide) ?_
      refine go_sIp (M := MX9_isWithin) [vI v3, vI 1, vI 60] [] ms_X9_107 ⟨Nat.le_of_ble_eq_true rfl, Nat.le_of_ble_eq_true rfl⟩ ⟨Nat.le_refl _, Nat.le_refl _⟩ rfl rfl (Nat.le_of_ble_eq_true rfl) dX9_whyNoYears_22 (p_X9_isWithin hL s9 (by decide) (by decide)) ?_
      refine go_ifb_ne 30 dX9_whyNoYears_25 (by decide) (fun c11 => ?_) (fun c11 => ?_)
      · have h := h.1 c11
        obtain ⟨s12, h⟩ := h
        refine go_aload_n 0 dX9_whyNoYears_30 rfl rfl ?_
        refine go_getR 3 f_X9_27 rfl (hL.1 0 _ rfl) (hL.2.1 0 3 _ rfl (by decide)) dX9_whyNoYears_31 ?_
        refine go_iload_n 2 dX9_whyNoYears_34 rfl rfl ?_
        refine go_vIp (M := MX7_isMissing) [vI v2] [] mv_X9_138 (hL.1 15 _ rfl) rfl (by decide) ⟨Nat.le_of_ble_eq_true rfl, Nat.le_of_ble_eq_true rfl⟩ ⟨Nat.le_refl _, Nat.le_refl _⟩ rfl rfl (Nat.le_of_ble_eq_true rfl) dX9_whyNoYears_35 (p_X7_isMissing hL s12) ?_
        refine go_ifb_eq 43 dX9_whyNoYears_38 (by decide) (fun c14 => ?_) (fun c14 => ?_)
        · have h := h.1 c14
          obtain ⟨s15, h⟩ := h
          refine go_aload_n 0 dX9_whyNoYears_43 rfl rfl ?_
          refine go_getR 3 f_X9_27 rfl (hL.1 0 _ rfl) (hL.2.1 0 3 _ rfl (by decide)) dX9_whyNoYears_44 ?_
          refine go_iload_n 2 dX9_whyNoYears_47 rfl rfl ?_
          refine go_iconst dX9_whyNoYears_48 ?_
          refine go_iload_n 3 dX9_whyNoYears_49 rfl rfl ?_
          refine go_vIp (M := MX7_reaches) [vI v2, vI 0, vI v3] [] mv_X9_145 (hL.1 15 _ rfl) rfl (by decide) ⟨Nat.le_of_ble_eq_true rfl, Nat.le_of_ble_eq_true rfl⟩ ⟨Nat.le_refl _, Nat.le_refl _⟩ rfl rfl (Nat.le_of_ble_eq_true rfl) dX9_whyNoYears_50 (p_X7_reaches hL (by decide) s9 s12 s15) ?_
          refine go_ifb_ne 58 dX9_whyNoYears_53 (by decide) (fun c17 => ?_) (fun c17 => ?_)
          · have h := h.1 c17
            refine go_iconst dX9_whyNoYears_58 ?_
            refine go_istore [1, 2, 3, 4, 0] (L' := [(0, vR E 0), (1, vI v1), (2, vI v2), (3, vI v3), (4, vI 0)]) dX9_whyNoYears_59 (by decide) rfl ?_
            exact h
          · have h := h.2 c17
            refine go_iconst dX9_whyNoYears_56 ?_
            exact go_ireturn (Nat.le_refl _) (Nat.le_refl _) rfl dX9_whyNoYears_57 h
        · have h := h.2 c14
          refine go_iconst dX9_whyNoYears_41 ?_
          exact go_ireturn (Nat.le_refl _) (Nat.le_refl _) rfl dX9_whyNoYears_42 h
      · have h := h.2 c11
        refine go_iconst dX9_whyNoYears_28 ?_
        exact go_ireturn (Nat.le_refl _) (Nat.le_refl _) rfl dX9_whyNoYears_29 h
theorem s_X9_whyNoYears_61 {l : Launch} {E : Ev} {Q : Int → Sh → Dm → Prop} {G : Sh} {D : Dm} (hL : Lay G) {v1 v2 v3 v4 : Int}  (h : ((-2147483648 ≤ v4 ∧ v4 < 2147483648) ∧ (-2147483648 ≤ v3 ∧ v3 < 2147483648)) ∧ ((v3 ≤ v4 → Q 0 G D) ∧ (v4 < v3 → ((0 ≤ v2 ∧ v2 < 4) ∧ (0 ≤ v4 ∧ v4 < 60)) ∧ (((D (17 + Int.toNat v2) v4) < 0 → Q 1 G D) ∧ (0 ≤ (D (17 + Int.toNat v2) v4) → (((D (17 + Int.toNat v2) v4) < (iSl 1 (D 1 1)) → KX9_whyNoYears l E Q 61 [(0, vR E 0), (1, vI v1), (2, vI v2), (3, vI v3), (4, vI (v4 + 1))] G D) ∧ ((iSl 1 (D 1 1)) ≤ (D (17 + Int.toNat v2) v4) → Q 1 G D))))))) : KX9_whyNoYears l E Q 61 [(0, vR E 0), (1, vI v1), (2, vI v2), (3, vI v3), (4, vI v4)] G D := by
  obtain ⟨s1, h⟩ := h
  refine go_iload 4 dX9_whyNoYears_61 rfl ?_
  refine go_iload_n 3 dX9_whyNoYears_63 rfl rfl ?_
  refine go_icmp_ge 110 dX9_whyNoYears_64 (by decide) s1.1 s1.2 (fun c2 => ?_) (fun c2 => ?_)
  · have h := h.1 c2
    refine go_iconst dX9_whyNoYears_110 ?_
    exact go_ireturn (Nat.le_refl _) (Nat.le_refl _) rfl dX9_whyNoYears_111 h
  · have h := h.2 c2
    obtain ⟨s4, h⟩ := h
    refine go_aload_n 0 dX9_whyNoYears_67 rfl rfl ?_
    refine go_getR 3 f_X9_27 rfl (hL.1 0 _ rfl) (hL.2.1 0 3 _ rfl (by decide)) dX9_whyNoYears_68 ?_
    refine go_getR 0 f_X9_134 rfl (hL.1 15 _ rfl) (hL.2.1 15 0 _ rfl (by decide)) dX9_whyNoYears_71 ?_
    refine go_iload_n 2 dX9_whyNoYears_74 rfl rfl ?_
    refine go_aaload (Or.inr rfl) (hL.1 16 _ rfl) (b := 4) rfl (by decide) s4.1 (lay_row hL s4.1) dX9_whyNoYears_75 ?_
    refine go_iload 4 dX9_whyNoYears_76 rfl ?_
    refine go_laload (lay_rowT hL s4.1) (b := 60) rfl (by decide) s4.2 dX9_whyNoYears_78 ?_
    refine go_lstore [1, 2, 3, 4, 5, 0] (L' := [(0, vR E 0), (1, vI v1), (2, vI v2), (3, vI v3), (4, vI v4), (5, vJ (D (17 + Int.toNat v2) v4))]) dX9_whyNoYears_79 (by decide) rfl ?_
    refine go_lload 5 dX9_whyNoYears_81 rfl ?_
    refine go_lconst (x := 0) dX9_whyNoYears_83 rfl ?_
    refine go_rngJ (c := (17 + Int.toNat v2)) (i := v4) (lay_rowT hL s4.1) rfl (fun (q5 : -9223372036854775808 ≤ (D (17 + Int.toNat v2) v4) ∧ (D (17 + Int.toNat v2) v4) < 9223372036854775808) => ?_)
    refine go_lcmp_lt 102 dX9_whyNoYears_84 dX9_whyNoYears_85 (by decide) q5 (by decide) (fun c6 => ?_) (fun c6 => ?_)
    · have h := h.1 c6
      refine go_iconst dX9_whyNoYears_102 ?_
      exact go_ireturn (Nat.le_refl _) (Nat.le_refl _) rfl dX9_whyNoYears_103 h
    · have h := h.2 c6
      refine go_lload 5 dX9_whyNoYears_88 rfl ?_
      refine go_aload_n 0 dX9_whyNoYears_90 rfl rfl ?_
      refine go_getR 0 f_X9_10 rfl (hL.1 0 _ rfl) (hL.2.1 0 0 _ rfl (by decide)) dX9_whyNoYears_91 ?_
      refine go_vIp (M := MX8_lots) [] [vJ (D (17 + Int.toNat v2) v4)] mv_X9_400 (hL.1 1 _ rfl) rfl (by decide) ⟨Nat.le_of_ble_eq_true rfl, Nat.le_of_ble_eq_true rfl⟩ ⟨Nat.le_refl _, Nat.le_refl _⟩ rfl rfl (Nat.le_of_ble_eq_true rfl) dX9_whyNoYears_94 (p_X8_lots hL) ?_
      refine go_i2l (r32 _) dX9_whyNoYears_97 ?_
      refine go_lcmp_lt 104 dX9_whyNoYears_98 dX9_whyNoYears_99 (by decide) q5 (rIJ (r32 _)) (fun c10 => ?_) (fun c10 => ?_)
      · have h := h.1 c10
        refine go_iinc 4 [1, 2, 3, 4, 0, 5] (L' := [(0, vR E 0), (1, vI v1), (2, vI v2), (3, vI v3), (4, vI (v4 + 1)), (5, vJ (D (17 + Int.toNat v2) v4))]) dX9_whyNoYears_104 (by decide) rfl rfl ?_
        refine go_goto 61 dX9_whyNoYears_107 (by decide) ?_
        refine go_sub [0, 1, 2, 3, 4] (L' := [(0, vR E 0), (1, vI v1), (2, vI v2), (3, vI v3), (4, vI (v4 + 1))]) rfl ?_
        exact h
      · have h := h.2 c10
        refine go_iconst dX9_whyNoYears_102 ?_
        exact go_ireturn (Nat.le_refl _) (Nat.le_refl _) rfl dX9_whyNoYears_103 h
theorem s_X9_starved {l : Launch} {E : Ev} {mc ms : Nat} {Q : Int → Sh → Dm → Prop} {G : Sh} {D : Dm} (hL : Lay G) {v1 v2 v3 : Int}  (h : C0 l E MX9_whyNoYears 0 [vR E 0, vI v1, vI v2, vI v3] G D (fun r2 D2 => ((-2147483648 ≤ r2 ∧ r2 < 2147483648)) ∧ ((r2 = 0 → Ct l E MX5_ready 2 mc ms [vR E 42] G D2 (fun r6 G6 D6 => Lay G6 ∧ C0 l E MX8_heldBy 0 [vR E 1, vI v1] G6 D6 (fun r8 D8 => ((0 ≤ v2 ∧ v2 < 4)) ∧ C0 l E MX5_hungryYears 0 [vR E 42, vI v1, vI r8, vR E (17 + Int.toNat v2), vI v3] G6 D8 (fun r10 D10 => Q r10 G6 (upd2 D10 0 11 0))))) ∧ (r2 ≠ 0 → Q (-1) G (upd2 D2 0 11 r2))))) : Ct l E MX9_starved 0 mc ms [vR E 0, vI v1, vI v2, vI v3] G D Q := by
  refine Ct.of (by decide) (Nat.le_of_ble_eq_true rfl) ?_
  show KX9_starved l E mc ms 0 0 Q 0 [(0, vR E 0), (1, vI v1), (2, vI v2), (3, vI v3)] G D
  refine go_aload_n 0 dX9_starved_0 rfl rfl ?_
  refine go_iload_n 1 dX9_starved_1 rfl rfl ?_
  refine go_iload_n 2 dX9_starved_2 rfl rfl ?_
  refine go_iload_n 3 dX9_starved_3 rfl rfl ?_
  refine go_vI (M := MX9_whyNoYears) [vI v1, vI v2, vI v3] [] mv_X9_362 (hL.1 0 _ rfl) rfl (by decide) ⟨Nat.le_of_ble_eq_true rfl, Nat.le_of_ble_eq_true rfl⟩ ⟨Nat.zero_le _, Nat.zero_le _⟩ rfl rfl (Nat.le_of_ble_eq_true rfl) dX9_starved_4 h (fun r2 D2 h => ?_)
  obtain ⟨s3, h⟩ := h
  refine go_istore [1, 2, 3, 4, 0] (L' := [(0, vR E 0), (1, vI v1), (2, vI v2), (3, vI v3), (4, vI r2)]) dX9_starved_7 (by decide) rfl ?_
  refine go_iload 4 dX9_starved_9 rfl ?_
  refine go_if_eq 21 dX9_starved_11 (by decide) s3 (fun c4 => ?_) (fun c4 => ?_)
  · have h := h.1 c4
    refine go_aload_n 0 dX9_starved_21 rfl rfl ?_
    refine go_getR 5 f_X9_43 rfl (hL.1 0 _ rfl) (hL.2.1 0 5 _ rfl (by decide)) dX9_starved_22 ?_
    refine go_vM (M := MX5_ready) [] [] mv_X9_260 (hL.1 42 _ rfl) rfl (by decide) ⟨Nat.le_of_ble_eq_true rfl, Nat.le_of_ble_eq_true rfl⟩ ⟨Nat.le_of_eq (Nat.zero_add _), Nat.le_of_eq (Nat.zero_add _)⟩ rfl rfl (Nat.le_of_ble_eq_true rfl) dX9_starved_25 h (fun r6 G6 D6 h => ?_)
    obtain ⟨hL6, h⟩ := h
    refine go_aload_n 0 dX9_starved_28 rfl rfl ?_
    refine go_aload_n 0 dX9_starved_29 rfl rfl ?_
    refine go_getR 5 f_X9_43 rfl (hL6.1 0 _ rfl) (hL6.2.1 0 5 _ rfl (by decide)) dX9_starved_30 ?_
    refine go_iload_n 1 dX9_starved_33 rfl rfl ?_
    refine go_aload_n 0 dX9_starved_34 rfl rfl ?_
    refine go_getR 0 f_X9_10 rfl (hL6.1 0 _ rfl) (hL6.2.1 0 0 _ rfl (by decide)) dX9_starved_35 ?_
    refine go_iload_n 1 dX9_starved_38 rfl rfl ?_
    refine go_vI (M := MX8_heldBy) [vI v1] [vI v1, vR E 42, vR E 0] mv_X9_234 (hL6.1 1 _ rfl) rfl (by decide) ⟨Nat.le_of_ble_eq_true rfl, Nat.le_of_ble_eq_true rfl⟩ ⟨Nat.le_of_eq (Nat.zero_add _), Nat.le_of_eq (Nat.zero_add _)⟩ rfl rfl (Nat.le_of_ble_eq_true rfl) dX9_starved_39 h (fun r8 D8 h => ?_)
    obtain ⟨s9, h⟩ := h
    refine go_aload_n 0 dX9_starved_42 rfl rfl ?_
    refine go_getR 3 f_X9_27 rfl (hL6.1 0 _ rfl) (hL6.2.1 0 3 _ rfl (by decide)) dX9_starved_43 ?_
    refine go_getR 0 f_X9_134 rfl (hL6.1 15 _ rfl) (hL6.2.1 15 0 _ rfl (by decide)) dX9_starved_46 ?_
    refine go_iload_n 2 dX9_starved_49 rfl rfl ?_
    refine go_aaload (Or.inr rfl) (hL6.1 16 _ rfl) (b := 4) rfl (by decide) s9 (lay_row hL6 s9) dX9_starved_50 ?_
    refine go_iload_n 3 dX9_starved_51 rfl rfl ?_
    refine go_vI (M := MX5_hungryYears) [vI v1, vI r8, vR E (17 + Int.toNat v2), vI v3] [vR E 0] mv_X9_365 (hL6.1 42 _ rfl) rfl (by decide) ⟨Nat.le_of_ble_eq_true rfl, Nat.le_of_ble_eq_true rfl⟩ ⟨Nat.le_of_eq (Nat.zero_add _), Nat.le_of_eq (Nat.zero_add _)⟩ rfl rfl (Nat.le_of_ble_eq_true rfl) dX9_starved_52 h (fun r10 D10 h => ?_)
    refine go_vIp (M := MX9_answer) [vI r10] [] mv_X9_180 (hL6.1 0 _ rfl) rfl (by decide) ⟨Nat.le_of_ble_eq_true rfl, Nat.le_of_ble_eq_true rfl⟩ ⟨Nat.le_of_eq (Nat.zero_add _), Nat.le_of_eq (Nat.zero_add _)⟩ rfl rfl (Nat.le_of_ble_eq_true rfl) dX9_starved_55 (p_X9_answer hL6) ?_
    exact go_ireturn (Nat.le_of_eq (Nat.zero_add _)) (Nat.le_of_eq (Nat.zero_add _)) rfl dX9_starved_58 h
  · have h := h.2 c4
    refine go_aload_n 0 dX9_starved_14 rfl rfl ?_
    refine go_iload 4 dX9_starved_15 rfl ?_
    refine go_vIp (M := MX9_none) [vI r2] [] mv_X9_130 (hL.1 0 _ rfl) rfl (by decide) ⟨Nat.le_of_ble_eq_true rfl, Nat.le_of_ble_eq_true rfl⟩ ⟨Nat.zero_le _, Nat.zero_le _⟩ rfl rfl (Nat.le_of_ble_eq_true rfl) dX9_starved_17 (p_X9_none hL s3) ?_
    exact go_ireturn (Nat.zero_le _) (Nat.zero_le _) rfl dX9_starved_20 h
theorem s_X9_luck {l : Launch} {E : Ev} {mc ms : Nat} {Q : Int → Sh → Dm → Prop} {G : Sh} {D : Dm} (hL : Lay G) {v1 v2 v3 v4 v5 : Int}  (h : ((-2147483648 ≤ v4 ∧ v4 < 2147483648)) ∧ ((¬ ((0 ≤ v4) ∧ (v4 ≤ 9999)) → Q (-1) G (upd2 D 0 11 1)) ∧ (((0 ≤ v4) ∧ (v4 ≤ 9999)) → ((-2147483648 ≤ v5 ∧ v5 < 2147483648)) ∧ ((((1 ≤ v5) ∧ (v5 ≤ 100)) → C0 l E MX9_whyNoYears 0 [vR E 0, vI v1, vI v2, vI v3] G D (fun r10 D10 => ((-2147483648 ≤ r10 ∧ r10 < 2147483648)) ∧ ((r10 = 0 → Ct l E MX5_ready 2 mc ms [vR E 42] G D10 (fun r14 G14 D14 => Lay G14 ∧ ((0 ≤ v2 ∧ v2 < 4)) ∧ C0 l E MX2_luckierDeals 0 [vR E 66, vI v1, vR E (17 + Int.toNat v2), vI v3, vI v5] G14 (upd2 D14 66 4 v4) (fun r17 D17 => Q r17 G14 (upd2 D17 0 11 0)))) ∧ (r10 ≠ 0 → Q (-1) G (upd2 D10 0 11 r10))))) ∧ (¬ ((1 ≤ v5) ∧ (v5 ≤ 100)) → Q (-1) G (upd2 D 0 11 1)))))) : Ct l E MX9_luck 0 mc ms [vR E 0, vI v1, vI v2, vI v3, vI v4, vI v5] G D Q := by
  refine Ct.of (by decide) (Nat.le_of_ble_eq_true rfl) ?_
  show KX9_luck l E mc ms 0 0 Q 0 [(0, vR E 0), (1, vI v1), (2, vI v2), (3, vI v3), (4, vI v4), (5, vI v5)] G D
  obtain ⟨s1, h⟩ := h
  refine go_iload 4 dX9_luck_0 rfl ?_
  refine go_iconst dX9_luck_2 ?_
  refine go_sipush dX9_luck_3 (by decide) ?_
  refine go_sIp (M := MX9_isWithin) [vI v4, vI 0, vI 9999] [] ms_X9_107 ⟨Nat.le_of_ble_eq_true rfl, Nat.le_of_ble_eq_true rfl⟩ ⟨Nat.zero_le _, Nat.zero_le _⟩ rfl rfl (Nat.le_of_ble_eq_true rfl) dX9_luck_6 (p_X9_isWithin hL s1 (by decide) (by decide)) ?_
  refine go_ifb_eq 23 dX9_luck_9 (by decide) (fun c3 => ?_) (fun c3 => ?_)
  · have h := h.1 c3
    refine go_aload_n 0 dX9_luck_23 rfl rfl ?_
    refine go_iconst dX9_luck_24 ?_
    refine go_vIp (M := MX9_none) [vI 1] [] mv_X9_130 (hL.1 0 _ rfl) rfl (by decide) ⟨Nat.le_of_ble_eq_true rfl, Nat.le_of_ble_eq_true rfl⟩ ⟨Nat.zero_le _, Nat.zero_le _⟩ rfl rfl (Nat.le_of_ble_eq_true rfl) dX9_luck_25 (p_X9_none hL (by decide)) ?_
    exact go_ireturn (Nat.zero_le _) (Nat.zero_le _) rfl dX9_luck_28 h
  · have h := h.2 c3
    obtain ⟨s6, h⟩ := h
    refine go_iload 5 dX9_luck_12 rfl ?_
    refine go_iconst dX9_luck_14 ?_
    refine go_bipush dX9_luck_15 (by decide) ?_
    refine go_sIp (M := MX9_isWithin) [vI v5, vI 1, vI 100] [] ms_X9_107 ⟨Nat.le_of_ble_eq_true rfl, Nat.le_of_ble_eq_true rfl⟩ ⟨Nat.zero_le _, Nat.zero_le _⟩ rfl rfl (Nat.le_of_ble_eq_true rfl) dX9_luck_17 (p_X9_isWithin hL s6 (by decide) (by decide)) ?_
    refine go_ifb_ne 29 dX9_luck_20 (by decide) (fun c8 => ?_) (fun c8 => ?_)
    · have h := h.1 c8
      refine go_aload_n 0 dX9_luck_29 rfl rfl ?_
      refine go_iload_n 1 dX9_luck_30 rfl rfl ?_
      refine go_iload_n 2 dX9_luck_31 rfl rfl ?_
      refine go_iload_n 3 dX9_luck_32 rfl rfl ?_
      refine go_vI (M := MX9_whyNoYears) [vI v1, vI v2, vI v3] [] mv_X9_362 (hL.1 0 _ rfl) rfl (by decide) ⟨Nat.le_of_ble_eq_true rfl, Nat.le_of_ble_eq_true rfl⟩ ⟨Nat.zero_le _, Nat.zero_le _⟩ rfl rfl (Nat.le_of_ble_eq_true rfl) dX9_luck_33 h (fun r10 D10 h => ?_)
      obtain ⟨s11, h⟩ := h
      refine go_istore [1, 2, 3, 4, 5, 6, 0] (L' := [(0, vR E 0), (1, vI v1), (2, vI v2), (3, vI v3), (4, vI v4), (5, vI v5), (6, vI r10)]) dX9_luck_36 (by decide) rfl ?_
      refine go_iload 6 dX9_luck_38 rfl ?_
      refine go_if_eq 50 dX9_luck_40 (by decide) s11 (fun c12 => ?_) (fun c12 => ?_)
      · have h := h.1 c12
        refine go_aload_n 0 dX9_luck_50 rfl rfl ?_
        refine go_getR 5 f_X9_43 rfl (hL.1 0 _ rfl) (hL.2.1 0 5 _ rfl (by decide)) dX9_luck_51 ?_
        refine go_vM (M := MX5_ready) [] [] mv_X9_260 (hL.1 42 _ rfl) rfl (by decide) ⟨Nat.le_of_ble_eq_true rfl, Nat.le_of_ble_eq_true rfl⟩ ⟨Nat.le_of_eq (Nat.zero_add _), Nat.le_of_eq (Nat.zero_add _)⟩ rfl rfl (Nat.le_of_ble_eq_true rfl) dX9_luck_54 h (fun r14 G14 D14 h => ?_)
        obtain ⟨hL14, h⟩ := h
        obtain ⟨s15, h⟩ := h
        refine go_aload_n 0 dX9_luck_57 rfl rfl ?_
        refine go_getR 10 f_X9_80 rfl (hL14.1 0 _ rfl) (hL14.2.1 0 10 _ rfl (by decide)) dX9_luck_58 ?_
        refine go_iload 4 dX9_luck_61 rfl ?_
        refine go_vVp (M := MX2_startDraws) [vI v4] [] mv_X9_369 (hL14.1 66 _ rfl) rfl (by decide) ⟨Nat.le_of_ble_eq_true rfl, Nat.le_of_ble_eq_true rfl⟩ ⟨Nat.le_of_eq (Nat.zero_add _), Nat.le_of_eq (Nat.zero_add _)⟩ rfl rfl (Nat.le_of_ble_eq_true rfl) dX9_luck_63 (p_X2_startDraws hL14 s1) ?_
        refine go_aload_n 0 dX9_luck_66 rfl rfl ?_
        refine go_aload_n 0 dX9_luck_67 rfl rfl ?_
        refine go_getR 10 f_X9_80 rfl (hL14.1 0 _ rfl) (hL14.2.1 0 10 _ rfl (by decide)) dX9_luck_68 ?_
        refine go_iload_n 1 dX9_luck_71 rfl rfl ?_
        refine go_aload_n 0 dX9_luck_72 rfl rfl ?_
        refine go_getR 3 f_X9_27 rfl (hL14.1 0 _ rfl) (hL14.2.1 0 3 _ rfl (by decide)) dX9_luck_73 ?_
        refine go_getR 0 f_X9_134 rfl (hL14.1 15 _ rfl) (hL14.2.1 15 0 _ rfl (by decide)) dX9_luck_76 ?_
        refine go_iload_n 2 dX9_luck_79 rfl rfl ?_
        refine go_aaload (Or.inr rfl) (hL14.1 16 _ rfl) (b := 4) rfl (by decide) s15 (lay_row hL14 s15) dX9_luck_80 ?_
        refine go_iload_n 3 dX9_luck_81 rfl rfl ?_
        refine go_iload 5 dX9_luck_82 rfl ?_
        refine go_vI (M := MX2_luckierDeals) [vI v1, vR E (17 + Int.toNat v2), vI v3, vI v5] [vR E 0] mv_X9_372 (hL14.1 66 _ rfl) rfl (by decide) ⟨Nat.le_of_ble_eq_true rfl, Nat.le_of_ble_eq_true rfl⟩ ⟨Nat.le_of_eq (Nat.zero_add _), Nat.le_of_eq (Nat.zero_add _)⟩ rfl rfl (Nat.le_of_ble_eq_true rfl) dX9_luck_84 h (fun r17 D17 h => ?_)
        refine go_vIp (M := MX9_answer) [vI r17] [] mv_X9_180 (hL14.1 0 _ rfl) rfl (by decide) ⟨Nat.le_of_ble_eq_true rfl, Nat.le_of_ble_eq_true rfl⟩ ⟨Nat.le_of_eq (Nat.zero_add _), Nat.le_of_eq (Nat.zero_add _)⟩ rfl rfl (Nat.le_of_ble_eq_true rfl) dX9_luck_87 (p_X9_answer hL14) ?_
        exact go_ireturn (Nat.le_of_eq (Nat.zero_add _)) (Nat.le_of_eq (Nat.zero_add _)) rfl dX9_luck_90 h
      · have h := h.2 c12
        refine go_aload_n 0 dX9_luck_43 rfl rfl ?_
        refine go_iload 6 dX9_luck_44 rfl ?_
        refine go_vIp (M := MX9_none) [vI r10] [] mv_X9_130 (hL.1 0 _ rfl) rfl (by decide) ⟨Nat.le_of_ble_eq_true rfl, Nat.le_of_ble_eq_true rfl⟩ ⟨Nat.zero_le _, Nat.zero_le _⟩ rfl rfl (Nat.le_of_ble_eq_true rfl) dX9_luck_46 (p_X9_none hL s11) ?_
        exact go_ireturn (Nat.zero_le _) (Nat.zero_le _) rfl dX9_luck_49 h
    · have h := h.2 c8
      refine go_aload_n 0 dX9_luck_23 rfl rfl ?_
      refine go_iconst dX9_luck_24 ?_
      refine go_vIp (M := MX9_none) [vI 1] [] mv_X9_130 (hL.1 0 _ rfl) rfl (by decide) ⟨Nat.le_of_ble_eq_true rfl, Nat.le_of_ble_eq_true rfl⟩ ⟨Nat.zero_le _, Nat.zero_le _⟩ rfl rfl (Nat.le_of_ble_eq_true rfl) dX9_luck_25 (p_X9_none hL (by decide)) ?_
      exact go_ireturn (Nat.zero_le _) (Nat.zero_le _) rfl dX9_luck_28 h
theorem s_X9_mark {l : Launch} {E : Ev} {Q : Int → Sh → Dm → Prop} {G : Sh} {D : Dm} (hL : Lay G)  (h : (((D 0 2) < 3 → ((0 ≤ (D 0 2) ∧ (D 0 2) < 3)) ∧ C0 l E MX8_takeAll 2 [vR E (68 + 13 * Int.toNat (D 0 2)), vR E 1] G D (fun r5 D5 => ((-2147483648 ≤ ((D5 0 2) + 1) ∧ ((D5 0 2) + 1) < 2147483648)) ∧ Q ((D5 0 2) + 1) G (upd2 (upd2 D5 0 2 ((D5 0 2) + 1)) 0 11 0))) ∧ (3 ≤ (D 0 2) → Q (-1) G (upd2 D 0 11 4)))) : Ct l E MX9_mark 0 0 0 [vR E 0] G D Q := by
  refine Ct.of (by decide) (Nat.le_of_ble_eq_true rfl) ?_
  show KX9_mark l E Q 0 [(0, vR E 0)] G D
  refine go_aload_n 0 dX9_mark_0 rfl rfl ?_
  refine go_getI 2 (i := 2) f_X9_20 rfl (hL.1 0 _ rfl) dX9_mark_1 ?_
  refine go_iconst dX9_mark_4 ?_
  refine go_rngI (c := 0) (i := 2) (hL.1 0 _ rfl) rfl (fun (q2 : -2147483648 ≤ (D 0 2) ∧ (D 0 2) < 2147483648) => ?_)
  refine go_icmp_lt 14 dX9_mark_5 (by decide) q2 (by decide) (fun c3 => ?_) (fun c3 => ?_)
  · have h := h.1 c3
    obtain ⟨s4, h⟩ := h
    refine go_aload_n 0 dX9_mark_14 rfl rfl ?_
    refine go_getR 1 f_X9_16 rfl (hL.1 0 _ rfl) (hL.2.1 0 1 _ rfl (by decide)) dX9_mark_15 ?_
    refine go_aload_n 0 dX9_mark_18 rfl rfl ?_
    refine go_getI 2 (i := 2) f_X9_20 rfl (hL.1 0 _ rfl) dX9_mark_19 ?_
    refine go_aaload (Or.inl rfl) (hL.1 14 _ rfl) (b := 3) rfl (by decide) s4 (lay_mark hL s4) dX9_mark_22 ?_
    refine go_aload_n 0 dX9_mark_23 rfl rfl ?_
    refine go_getR 0 f_X9_10 rfl (hL.1 0 _ rfl) (hL.2.1 0 0 _ rfl (by decide)) dX9_mark_24 ?_
    refine go_vV (M := MX8_takeAll) [vR E 1] [] mv_X9_376 (lay_markV hL s4).1 rfl (by decide) ⟨Nat.le_of_ble_eq_true rfl, Nat.le_of_ble_eq_true rfl⟩ ⟨Nat.le_refl _, Nat.le_refl _⟩ rfl rfl (Nat.le_of_ble_eq_true rfl) dX9_mark_27 h (fun r5 D5 h => ?_)
    obtain ⟨s6, h⟩ := h
    refine go_aload_n 0 dX9_mark_30 rfl rfl ?_
    refine go_dup rfl dX9_mark_31 ?_
    refine go_getI 2 (i := 2) f_X9_20 rfl (hL.1 0 _ rfl) dX9_mark_32 ?_
    refine go_iconst dX9_mark_35 ?_
    refine go_iadd dX9_mark_36 ?_
    refine go_putI 2 (i := 2) s6 f_X9_20 rfl (hL.1 0 _ rfl) dX9_mark_37 ?_
    refine go_aload_n 0 dX9_mark_40 rfl rfl ?_
    refine go_aload_n 0 dX9_mark_41 rfl rfl ?_
    refine go_getI 2 (i := 2) f_X9_20 rfl (hL.1 0 _ rfl) dX9_mark_42 ?_
    refine go_vIp (M := MX9_answer) [vI ((D5 0 2) + 1)] [] mv_X9_180 (hL.1 0 _ rfl) rfl (by decide) ⟨Nat.le_of_ble_eq_true rfl, Nat.le_of_ble_eq_true rfl⟩ ⟨Nat.le_refl _, Nat.le_refl _⟩ rfl rfl (Nat.le_of_ble_eq_true rfl) dX9_mark_45 (p_X9_answer hL) ?_
    exact go_ireturn (Nat.le_refl _) (Nat.le_refl _) rfl dX9_mark_48 h
  · have h := h.2 c3
    refine go_aload_n 0 dX9_mark_8 rfl rfl ?_
    refine go_iconst dX9_mark_9 ?_
    refine go_vIp (M := MX9_none) [vI 4] [] mv_X9_130 (hL.1 0 _ rfl) rfl (by decide) ⟨Nat.le_of_ble_eq_true rfl, Nat.le_of_ble_eq_true rfl⟩ ⟨Nat.le_refl _, Nat.le_refl _⟩ rfl rfl (Nat.le_of_ble_eq_true rfl) dX9_mark_10 (p_X9_none hL (by decide)) ?_
    exact go_ireturn (Nat.le_refl _) (Nat.le_refl _) rfl dX9_mark_13 h
theorem s_X9_back {l : Launch} {E : Ev} {Q : Int → Sh → Dm → Prop} {G : Sh} {D : Dm} (hL : Lay G)  (h : ((0 < (D 0 2) → ((-2147483648 ≤ ((D 0 2) - 1) ∧ ((D 0 2) - 1) < 2147483648) ∧ (0 ≤ ((D 0 2) - 1) ∧ ((D 0 2) - 1) < 3)) ∧ C0 l E MX8_takeAll 2 [vR E 1, vR E (68 + 13 * Int.toNat ((D 0 2) - 1))] G (upd2 D 0 2 ((D 0 2) - 1)) (fun r5 D5 => Q (D5 0 2) G (upd2 (upd2 D5 42 5 0) 0 11 0))) ∧ ((D 0 2) ≤ 0 → Q (-1) G (upd2 D 0 11 6)))) : Ct l E MX9_back 0 0 0 [vR E 0] G D Q := by
  refine Ct.of (by decide) (Nat.le_of_ble_eq_true rfl) ?_
  show KX9_back l E Q 0 [(0, vR E 0)] G D
  refine go_aload_n 0 dX9_back_0 rfl rfl ?_
  refine go_getI 2 (i := 2) f_X9_20 rfl (hL.1 0 _ rfl) dX9_back_1 ?_
  refine go_rngI (c := 0) (i := 2) (hL.1 0 _ rfl) rfl (fun (q2 : -2147483648 ≤ (D 0 2) ∧ (D 0 2) < 2147483648) => ?_)
  refine go_if_gt 14 dX9_back_4 (by decide) q2 (fun c3 => ?_) (fun c3 => ?_)
  · have h := h.1 c3
    obtain ⟨s4, h⟩ := h
    refine go_aload_n 0 dX9_back_14 rfl rfl ?_
    refine go_dup rfl dX9_back_15 ?_
    refine go_getI 2 (i := 2) f_X9_20 rfl (hL.1 0 _ rfl) dX9_back_16 ?_
    refine go_iconst dX9_back_19 ?_
    refine go_isub dX9_back_20 ?_
    refine go_putI 2 (i := 2) s4.1 f_X9_20 rfl (hL.1 0 _ rfl) dX9_back_21 ?_
    refine go_aload_n 0 dX9_back_24 rfl rfl ?_
    refine go_getR 0 f_X9_10 rfl (hL.1 0 _ rfl) (hL.2.1 0 0 _ rfl (by decide)) dX9_back_25 ?_
    refine go_aload_n 0 dX9_back_28 rfl rfl ?_
    refine go_getR 1 f_X9_16 rfl (hL.1 0 _ rfl) (hL.2.1 0 1 _ rfl (by decide)) dX9_back_29 ?_
    refine go_aload_n 0 dX9_back_32 rfl rfl ?_
    refine go_getI 2 (i := 2) f_X9_20 rfl (hL.1 0 _ rfl) dX9_back_33 ?_
    refine go_aaload (Or.inl rfl) (hL.1 14 _ rfl) (b := 3) rfl (by decide) s4.2 (lay_mark hL s4.2) dX9_back_36 ?_
    refine go_vV (M := MX8_takeAll) [vR E (68 + 13 * Int.toNat ((D 0 2) - 1))] [] mv_X9_376 (hL.1 1 _ rfl) rfl (by decide) ⟨Nat.le_of_ble_eq_true rfl, Nat.le_of_ble_eq_true rfl⟩ ⟨Nat.le_refl _, Nat.le_refl _⟩ rfl rfl (Nat.le_of_ble_eq_true rfl) dX9_back_37 h (fun r5 D5 h => ?_)
    refine go_aload_n 0 dX9_back_40 rfl rfl ?_
    refine go_getR 5 f_X9_43 rfl (hL.1 0 _ rfl) (hL.2.1 0 5 _ rfl (by decide)) dX9_back_41 ?_
    refine go_vVp (M := MX5_forget) [] [] mv_X9_174 (hL.1 42 _ rfl) rfl (by decide) ⟨Nat.le_of_ble_eq_true rfl, Nat.le_of_ble_eq_true rfl⟩ ⟨Nat.le_refl _, Nat.le_refl _⟩ rfl rfl (Nat.le_of_ble_eq_true rfl) dX9_back_44 (p_X5_forget hL) ?_
    refine go_aload_n 0 dX9_back_47 rfl rfl ?_
    refine go_aload_n 0 dX9_back_48 rfl rfl ?_
    refine go_getI 2 (i := 2) f_X9_20 rfl (hL.1 0 _ rfl) dX9_back_49 ?_
    refine go_vIp (M := MX9_answer) [vI (D5 0 2)] [] mv_X9_180 (hL.1 0 _ rfl) rfl (by decide) ⟨Nat.le_of_ble_eq_true rfl, Nat.le_of_ble_eq_true rfl⟩ ⟨Nat.le_refl _, Nat.le_refl _⟩ rfl rfl (Nat.le_of_ble_eq_true rfl) dX9_back_52 (p_X9_answer hL) ?_
    exact go_ireturn (Nat.le_refl _) (Nat.le_refl _) rfl dX9_back_55 h
  · have h := h.2 c3
    refine go_aload_n 0 dX9_back_7 rfl rfl ?_
    refine go_bipush dX9_back_8 (by decide) ?_
    refine go_vIp (M := MX9_none) [vI 6] [] mv_X9_130 (hL.1 0 _ rfl) rfl (by decide) ⟨Nat.le_of_ble_eq_true rfl, Nat.le_of_ble_eq_true rfl⟩ ⟨Nat.le_refl _, Nat.le_refl _⟩ rfl rfl (Nat.le_of_ble_eq_true rfl) dX9_back_10 (p_X9_none hL (by decide)) ?_
    exact go_ireturn (Nat.le_refl _) (Nat.le_refl _) rfl dX9_back_13 h
