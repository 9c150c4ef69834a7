theorem s_X10_hold {l : Launch} {E : Ev} {Q : Int → Sh → Dm → Prop} {G : Sh} {D : Dm} (hL : Lay G) {v1 v2 : Int}  (h : ((-2147483648 ≤ v1 ∧ v1 < 2147483648)) ∧ ((¬ ((0 ≤ v1) ∧ (v1 < (D 108 0))) → Q 0 G (upd2 D 107 1 1)) ∧ (((0 ≤ v1) ∧ (v1 < (D 108 0))) → ((-2147483648 ≤ v2 ∧ v2 < 2147483648)) ∧ ((v2 = (-1) → ((0 ≤ ((8 + (5 * v1)) + 4) ∧ ((8 + (5 * v1)) + 4) < 500)) ∧ (((D 108 ((8 + (5 * v1)) + 4)) ≠ v2 → Q 1 G (upd2 (upd2 D 108 ((8 + (5 * v1)) + 4) v2) 107 1 0)) ∧ ((D 108 ((8 + (5 * v1)) + 4)) = v2 → Q 0 G (upd2 D 107 1 7)))) ∧ (v2 ≠ (-1) → ((((0 ≤ v2) ∧ (v2 < (D 108 2))) → ((0 ≤ ((8 + (5 * v1)) + 4) ∧ ((8 + (5 * v1)) + 4) < 500)) ∧ (((D 108 ((8 + (5 * v1)) + 4)) ≠ v2 → Q 1 G (upd2 (upd2 D 108 ((8 + (5 * v1)) + 4) v2) 107 1 0)) ∧ ((D 108 ((8 + (5 * v1)) + 4)) = v2 → Q 0 G (upd2 D 107 1 7)))) ∧ (¬ ((0 ≤ v2) ∧ (v2 < (D 108 2))) → Q 0 G (upd2 D 107 1 1)))))))) : Ct l E MX10_hold 0 0 0 [vR E 107, vI v1, vI v2] G D Q := by
  refine Ct.of (by decide) (Nat.le_of_ble_eq_true rfl) ?_
  show KX10_hold l E Q 0 [(0, vR E 107), (1, vI v1), (2, vI v2)] G D
  obtain ⟨s1, h⟩ := h
  refine go_aload_n 0 dX10_hold_0 rfl rfl ?_
  refine go_iload_n 1 dX10_hold_1 rfl rfl ?_
  refine go_vIp (M := MX10_isStrip) [vI v1] [] mv_X10_213 (hL.1 107 _ rfl) rfl (by decide) ⟨Nat.le_of_ble_eq_true rfl, Nat.le_of_ble_eq_true rfl⟩ ⟨Nat.le_refl _, Nat.le_refl _⟩ rfl rfl (Nat.le_of_ble_eq_true rfl) dX10_hold_2 (p_X10_isStrip hL s1) ?_
  refine go_ifb_eq 21 dX10_hold_5 (by decide) (fun c3 => ?_) (fun c3 => ?_)
  · have h := h.1 c3
    refine go_aload_n 0 dX10_hold_21 rfl rfl ?_
    refine go_iconst dX10_hold_22 ?_
    refine go_vIp (M := MX10_is) [vI 1] [] mv_X10_88 (hL.1 107 _ rfl) rfl (by decide) ⟨Nat.le_of_ble_eq_true rfl, Nat.le_of_ble_eq_true rfl⟩ ⟨Nat.le_refl _, Nat.le_refl _⟩ rfl rfl (Nat.le_of_ble_eq_true rfl) dX10_hold_23 (p_X10_is hL (by decide)) ?_
    exact go_zreturn (Nat.le_refl _) (Nat.le_refl _) rfl (by decide) dX10_hold_26 h
  · have h := h.2 c3
    obtain ⟨s6, h⟩ := h
    refine go_iload_n 2 dX10_hold_8 rfl rfl ?_
    refine go_iconst dX10_hold_9 ?_
    refine go_icmp_eq 27 dX10_hold_10 (by decide) s6 (by decide) (fun c7 => ?_) (fun c7 => ?_)
    · have h := h.1 c7
      obtain ⟨s8, h⟩ := h
      refine go_aload_n 0 dX10_hold_27 rfl rfl ?_
      refine go_iload_n 1 dX10_hold_28 rfl rfl ?_
      refine go_iconst dX10_hold_29 ?_
      refine go_vIp (M := MX10_ofStrip) [vI v1, vI 4] [] mv_X10_210 (hL.1 107 _ rfl) rfl (by decide) ⟨Nat.le_of_ble_eq_true rfl, Nat.le_of_ble_eq_true rfl⟩ ⟨Nat.le_refl _, Nat.le_refl _⟩ rfl rfl (Nat.le_of_ble_eq_true rfl) dX10_hold_30 (p_X10_ofStrip hL s8) ?_
      refine go_iload_n 2 dX10_hold_33 rfl rfl ?_
      refine go_rngI (c := 108) (i := ((8 + (5 * v1)) + 4)) (hL.1 108 _ rfl) rfl (fun (q10 : -2147483648 ≤ (D 108 ((8 + (5 * v1)) + 4)) ∧ (D 108 ((8 + (5 * v1)) + 4)) < 2147483648) => ?_)
      refine go_icmp_ne 44 dX10_hold_34 (by decide) q10 s6 (fun c11 => ?_) (fun c11 => ?_)
      · have h := h.1 c11
        refine go_aload_n 0 dX10_hold_44 rfl rfl ?_
        refine go_getR 0 f_X10_7 rfl (hL.1 107 _ rfl) (hL.2.1 107 0 _ rfl (by decide)) dX10_hold_45 ?_
        refine go_bipush dX10_hold_48 (by decide) ?_
        refine go_iconst dX10_hold_50 ?_
        refine go_iload_n 1 dX10_hold_51 rfl rfl ?_
        refine go_imul dX10_hold_52 ?_
        refine go_iadd dX10_hold_53 ?_
        refine go_iconst dX10_hold_54 ?_
        refine go_iadd dX10_hold_55 ?_
        refine go_iload_n 2 dX10_hold_56 rfl rfl ?_
        refine go_iastore (hL.1 108 _ rfl) (b := 500) rfl (by decide) s8 s6 dX10_hold_57 ?_
        refine go_aload_n 0 dX10_hold_58 rfl rfl ?_
        refine go_iconst dX10_hold_59 ?_
        refine go_vIp (M := MX10_is) [vI 0] [] mv_X10_88 (hL.1 107 _ rfl) rfl (by decide) ⟨Nat.le_of_ble_eq_true rfl, Nat.le_of_ble_eq_true rfl⟩ ⟨Nat.le_refl _, Nat.le_refl _⟩ rfl rfl (Nat.le_of_ble_eq_true rfl) dX10_hold_60 (p_X10_is hL (by decide)) ?_
        exact go_zreturn (Nat.le_refl _) (Nat.le_refl _) rfl (by decide) dX10_hold_63 h
      · have h := h.2 c11
        refine go_aload_n 0 dX10_hold_37 rfl rfl ?_
        refine go_bipush dX10_hold_38 (by decide) ?_
        refine go_vIp (M := MX10_is) [vI 7] [] mv_X10_88 (hL.1 107 _ rfl) rfl (by decide) ⟨Nat.le_of_ble_eq_true rfl, Nat.le_of_ble_eq_true rfl⟩ ⟨Nat.le_refl _, Nat.le_refl _⟩ rfl rfl (Nat.le_of_ble_eq_true rfl) dX10_hold_40 (p_X10_is hL (by decide)) ?_
        exact go_zreturn (Nat.le_refl _) (Nat.le_refl _) rfl (by decide) dX10_hold_43 h
    · have h := h.2 c7
      refine go_aload_n 0 dX10_hold_13 rfl rfl ?_
      refine go_iload_n 2 dX10_hold_14 rfl rfl ?_
      refine go_vIp (M := MX10_isFamily) [vI v2] [] mv_X10_223 (hL.1 107 _ rfl) rfl (by decide) ⟨Nat.le_of_ble_eq_true rfl, Nat.le_of_ble_eq_true rfl⟩ ⟨Nat.le_refl _, Nat.le_refl _⟩ rfl rfl (Nat.le_of_ble_eq_true rfl) dX10_hold_15 (p_X10_isFamily hL s6) ?_
      refine go_ifb_ne 27 dX10_hold_18 (by decide) (fun c18 => ?_) (fun c18 => ?_)
      · have h := h.1 c18
        obtain ⟨s19, h⟩ := h
        refine go_aload_n 0 dX10_hold_27 rfl rfl ?_
        refine go_iload_n 1 dX10_hold_28 rfl rfl ?_
        refine go_iconst dX10_hold_29 ?_
        refine go_vIp (M := MX10_ofStrip) [vI v1, vI 4] [] mv_X10_210 (hL.1 107 _ rfl) rfl (by decide) ⟨Nat.le_of_ble_eq_true rfl, Nat.le_of_ble_eq_true rfl⟩ ⟨Nat.le_refl _, Nat.le_refl _⟩ rfl rfl (Nat.le_of_ble_eq_true rfl) dX10_hold_30 (p_X10_ofStrip hL s19) ?_
        refine go_iload_n 2 dX10_hold_33 rfl rfl ?_
        refine go_rngI (c := 108) (i := ((8 + (5 * v1)) + 4)) (hL.1 108 _ rfl) rfl (fun (q21 : -2147483648 ≤ (D 108 ((8 + (5 * v1)) + 4)) ∧ (D 108 ((8 + (5 * v1)) + 4)) < 2147483648) => ?_)
        refine go_icmp_ne 44 dX10_hold_34 (by decide) q21 s6 (fun c22 => ?_) (fun c22 => ?_)
        · have h := h.1 c22
          refine go_aload_n 0 dX10_hold_44 rfl rfl ?_
          refine go_getR 0 f_X10_7 rfl (hL.1 107 _ rfl) (hL.2.1 107 0 _ rfl (by decide)) dX10_hold_45 ?_
          refine go_bipush dX10_hold_48 (by decide) ?_
          refine go_iconst dX10_hold_50 ?_
          refine go_iload_n 1 dX10_hold_51 rfl rfl ?_
          refine go_imul dX10_hold_52 ?_
          refine go_iadd dX10_hold_53 ?_
          refine go_iconst dX10_hold_54 ?_
          refine go_iadd dX10_hold_55 ?_
          refine go_iload_n 2 dX10_hold_56 rfl rfl ?_
          refine go_iastore (hL.1 108 _ rfl) (b := 500) rfl (by decide) s19 s6 dX10_hold_57 ?_
          refine go_aload_n 0 dX10_hold_58 rfl rfl ?_
          refine go_iconst dX10_hold_59 ?_
          refine go_vIp (M := MX10_is) [vI 0] [] mv_X10_88 (hL.1 107 _ rfl) rfl (by decide) ⟨Nat.le_of_ble_eq_true rfl, Nat.le_of_ble_eq_true rfl⟩ ⟨Nat.le_refl _, Nat.le_refl _⟩ rfl rfl (Nat.le_of_ble_eq_true rfl) dX10_hold_60 (p_X10_is hL (by decide)) ?_
          exact go_zreturn (Nat.le_refl _) (Nat.le_refl _) rfl (by decide) dX10_hold_63 h
        · have h := h.2 c22
          refine go_aload_n 0 dX10_hold_37 rfl rfl ?_
          refine go_bipush dX10_hold_38 (by decide) ?_
          refine go_vIp (M := MX10_is) [vI 7] [] mv_X10_88 (hL.1 107 _ rfl) rfl (by decide) ⟨Nat.le_of_ble_eq_true rfl, Nat.le_of_ble_eq_true rfl⟩ ⟨Nat.le_refl _, Nat.le_refl _⟩ rfl rfl (Nat.le_of_ble_eq_true rfl) dX10_hold_40 (p_X10_is hL (by decide)) ?_
          exact go_zreturn (Nat.le_refl _) (Nat.le_refl _) rfl (by decide) dX10_hold_43 h
      · have h := h.2 c18
        refine go_aload_n 0 dX10_hold_21 rfl rfl ?_
        refine go_iconst dX10_hold_22 ?_
        refine go_vIp (M := MX10_is) [vI 1] [] mv_X10_88 (hL.1 107 _ rfl) rfl (by decide) ⟨Nat.le_of_ble_eq_true rfl, Nat.le_of_ble_eq_true rfl⟩ ⟨Nat.le_refl _, Nat.le_refl _⟩ rfl rfl (Nat.le_of_ble_eq_true rfl) dX10_hold_23 (p_X10_is hL (by decide)) ?_
        exact go_zreturn (Nat.le_refl _) (Nat.le_refl _) rfl (by decide) dX10_hold_26 h
theorem s_X10_let {l : Launch} {E : Ev} {Q : Int → Sh → Dm → Prop} {G : Sh} {D : Dm} (hL : Lay G) {v1 v2 : Int}  (h : ((-2147483648 ≤ v1 ∧ v1 < 2147483648)) ∧ ((v1 < 0 → Q 0 G (upd2 D 107 1 1)) ∧ (0 ≤ v1 → ((1 < v1 → Q 0 G (upd2 D 107 1 1)) ∧ (v1 ≤ 1 → ((v1 ≠ 0 → ((-2147483648 ≤ v2 ∧ v2 < 2147483648)) ∧ ((v2 < 0 → Q 0 G (upd2 D 107 1 1)) ∧ (0 ≤ v2 → ((v2 ≤ 99 → ((v1 ≠ 0 → Q 1 G (upd2 (upd2 D 108 4 v2) 107 1 0)) ∧ (v1 = 0 → Q 1 G (upd2 (upd2 D 108 3 v2) 107 1 0)))) ∧ (99 < v2 → Q 0 G (upd2 D 107 1 1)))))) ∧ (v1 = 0 → ((-2147483648 ≤ v2 ∧ v2 < 2147483648)) ∧ ((v2 < 1 → Q 0 G (upd2 D 107 1 1)) ∧ (1 ≤ v2 → ((v2 ≤ 99 → ((v1 ≠ 0 → Q 1 G (upd2 (upd2 D 108 4 v2) 107 1 0)) ∧ (v1 = 0 → Q 1 G (upd2 (upd2 D 108 3 v2) 107 1 0)))) ∧ (99 < v2 → Q 0 G (upd2 D 107 1 1)))))))))))) : Ct l E MX10_let 0 0 0 [vR E 107, vI v1, vI v2] G D Q := by
  refine Ct.of (by decide) (Nat.le_of_ble_eq_true rfl) ?_
  show KX10_let l E Q 0 [(0, vR E 107), (1, vI v1), (2, vI v2)] G D
  obtain ⟨s1, h⟩ := h
  refine go_iload_n 1 dX10_let_0 rfl rfl ?_
  refine go_if_lt 28 dX10_let_1 (by decide) s1 (fun c2 => ?_) (fun c2 => ?_)
  · have h := h.1 c2
    refine go_aload_n 0 dX10_let_28 rfl rfl ?_
    refine go_iconst dX10_let_29 ?_
    refine go_vIp (M := MX10_is) [vI 1] [] mv_X10_88 (hL.1 107 _ rfl) rfl (by decide) ⟨Nat.le_of_ble_eq_true rfl, Nat.le_of_ble_eq_true rfl⟩ ⟨Nat.le_refl _, Nat.le_refl _⟩ rfl rfl (Nat.le_of_ble_eq_true rfl) dX10_let_30 (p_X10_is hL (by decide)) ?_
    exact go_zreturn (Nat.le_refl _) (Nat.le_refl _) rfl (by decide) dX10_let_33 h
  · have h := h.2 c2
    refine go_iload_n 1 dX10_let_4 rfl rfl ?_
    refine go_iconst dX10_let_5 ?_
    refine go_icmp_gt 28 dX10_let_6 (by decide) s1 (by decide) (fun c6 => ?_) (fun c6 => ?_)
    · have h := h.1 c6
      refine go_aload_n 0 dX10_let_28 rfl rfl ?_
      refine go_iconst dX10_let_29 ?_
      refine go_vIp (M := MX10_is) [vI 1] [] mv_X10_88 (hL.1 107 _ rfl) rfl (by decide) ⟨Nat.le_of_ble_eq_true rfl, Nat.le_of_ble_eq_true rfl⟩ ⟨Nat.le_refl _, Nat.le_refl _⟩ rfl rfl (Nat.le_of_ble_eq_true rfl) dX10_let_30 (p_X10_is hL (by decide)) ?_
      exact go_zreturn (Nat.le_refl _) (Nat.le_refl _) rfl (by decide) dX10_let_33 h
    · have h := h.2 c6
      refine go_iload_n 2 dX10_let_9 rfl rfl ?_
      refine go_iload_n 1 dX10_let_10 rfl rfl ?_
      refine go_if_ne 18 dX10_let_11 (by decide) s1 (fun c10 => ?_) (fun c10 => ?_)
      · have h := h.1 c10
        obtain ⟨s11, h⟩ := h
        refine go_iconst dX10_let_18 ?_
        refine go_icmp_lt 28 dX10_let_19 (by decide) s11 (by decide) (fun c12 => ?_) (fun c12 => ?_)
        · have h := h.1 c12
          refine go_aload_n 0 dX10_let_28 rfl rfl ?_
          refine go_iconst dX10_let_29 ?_
          refine go_vIp (M := MX10_is) [vI 1] [] mv_X10_88 (hL.1 107 _ rfl) rfl (by decide) ⟨Nat.le_of_ble_eq_true rfl, Nat.le_of_ble_eq_true rfl⟩ ⟨Nat.le_refl _, Nat.le_refl _⟩ rfl rfl (Nat.le_of_ble_eq_true rfl) dX10_let_30 (p_X10_is hL (by decide)) ?_
          exact go_zreturn (Nat.le_refl _) (Nat.le_refl _) rfl (by decide) dX10_let_33 h
        · have h := h.2 c12
          refine go_iload_n 2 dX10_let_22 rfl rfl ?_
          refine go_bipush dX10_let_23 (by decide) ?_
          refine go_icmp_le 34 dX10_let_25 (by decide) s11 (by decide) (fun c16 => ?_) (fun c16 => ?_)
          · have h := h.1 c16
            refine go_aload_n 0 dX10_let_34 rfl rfl ?_
            refine go_getR 0 f_X10_7 rfl (hL.1 107 _ rfl) (hL.2.1 107 0 _ rfl (by decide)) dX10_let_35 ?_
            refine go_iload_n 1 dX10_let_38 rfl rfl ?_
            refine go_if_ne 46 dX10_let_39 (by decide) s1 (fun c18 => ?_) (fun c18 => ?_)
            · have h := h.1 c18
              refine go_iconst dX10_let_46 ?_
              refine go_iload_n 2 dX10_let_47 rfl rfl ?_
              refine go_iastore (hL.1 108 _ rfl) (b := 500) rfl (by decide) (by decide) s11 dX10_let_48 ?_
              refine go_aload_n 0 dX10_let_49 rfl rfl ?_
              refine go_iconst dX10_let_50 ?_
              refine go_vIp (M := MX10_is) [vI 0] [] mv_X10_88 (hL.1 107 _ rfl) rfl (by decide) ⟨Nat.le_of_ble_eq_true rfl, Nat.le_of_ble_eq_true rfl⟩ ⟨Nat.le_refl _, Nat.le_refl _⟩ rfl rfl (Nat.le_of_ble_eq_true rfl) dX10_let_51 (p_X10_is hL (by decide)) ?_
              exact go_zreturn (Nat.le_refl _) (Nat.le_refl _) rfl (by decide) dX10_let_54 h
            · have h := h.2 c18
              refine go_iconst dX10_let_42 ?_
              refine go_goto 47 dX10_let_43 (by decide) ?_
              refine go_iload_n 2 dX10_let_47 rfl rfl ?_
              refine go_iastore (hL.1 108 _ rfl) (b := 500) rfl (by decide) (by decide) s11 dX10_let_48 ?_
              refine go_aload_n 0 dX10_let_49 rfl rfl ?_
              refine go_iconst dX10_let_50 ?_
              refine go_vIp (M := MX10_is) [vI 0] [] mv_X10_88 (hL.1 107 _ rfl) rfl (by decide) ⟨Nat.le_of_ble_eq_true rfl, Nat.le_of_ble_eq_true rfl⟩ ⟨Nat.le_refl _, Nat.le_refl _⟩ rfl rfl (Nat.le_of_ble_eq_true rfl) dX10_let_51 (p_X10_is hL (by decide)) ?_
              exact go_zreturn (Nat.le_refl _) (Nat.le_refl _) rfl (by decide) dX10_let_54 h
          · have h := h.2 c16
            refine go_aload_n 0 dX10_let_28 rfl rfl ?_
            refine go_iconst dX10_let_29 ?_
            refine go_vIp (M := MX10_is) [vI 1] [] mv_X10_88 (hL.1 107 _ rfl) rfl (by decide) ⟨Nat.le_of_ble_eq_true rfl, Nat.le_of_ble_eq_true rfl⟩ ⟨Nat.le_refl _, Nat.le_refl _⟩ rfl rfl (Nat.le_of_ble_eq_true rfl) dX10_let_30 (p_X10_is hL (by decide)) ?_
            exact go_zreturn (Nat.le_refl _) (Nat.le_refl _) rfl (by decide) dX10_let_33 h
      · have h := h.2 c10
        obtain ⟨s25, h⟩ := h
        refine go_iconst dX10_let_14 ?_
        refine go_goto 19 dX10_let_15 (by decide) ?_
        refine go_icmp_lt 28 dX10_let_19 (by decide) s25 (by decide) (fun c26 => ?_) (fun c26 => ?_)
        · have h := h.1 c26
          refine go_aload_n 0 dX10_let_28 rfl rfl ?_
          refine go_iconst dX10_let_29 ?_
          refine go_vIp (M := MX10_is) [vI 1] [] mv_X10_88 (hL.1 107 _ rfl) rfl (by decide) ⟨Nat.le_of_ble_eq_true rfl, Nat.le_of_ble_eq_true rfl⟩ ⟨Nat.le_refl _, Nat.le_refl _⟩ rfl rfl (Nat.le_of_ble_eq_true rfl) dX10_let_30 (p_X10_is hL (by decide)) ?_
          exact go_zreturn (Nat.le_refl _) (Nat.le_refl _) rfl (by decide) dX10_let_33 h
        · have h := h.2 c26
          refine go_iload_n 2 dX10_let_22 rfl rfl ?_
          refine go_bipush dX10_let_23 (by decide) ?_
          refine go_icmp_le 34 dX10_let_25 (by decide) s25 (by decide) (fun c30 => ?_) (fun c30 => ?_)
          · have h := h.1 c30
            refine go_aload_n 0 dX10_let_34 rfl rfl ?_
            refine go_getR 0 f_X10_7 rfl (hL.1 107 _ rfl) (hL.2.1 107 0 _ rfl (by decide)) dX10_let_35 ?_
            refine go_iload_n 1 dX10_let_38 rfl rfl ?_
            refine go_if_ne 46 dX10_let_39 (by decide) s1 (fun c32 => ?_) (fun c32 => ?_)
            · have h := h.1 c32
              refine go_iconst dX10_let_46 ?_
              refine go_iload_n 2 dX10_let_47 rfl rfl ?_
              refine go_iastore (hL.1 108 _ rfl) (b := 500) rfl (by decide) (by decide) s25 dX10_let_48 ?_
              refine go_aload_n 0 dX10_let_49 rfl rfl ?_
              refine go_iconst dX10_let_50 ?_
              refine go_vIp (M := MX10_is) [vI 0] [] mv_X10_88 (hL.1 107 _ rfl) rfl (by decide) ⟨Nat.le_of_ble_eq_true rfl, Nat.le_of_ble_eq_true rfl⟩ ⟨Nat.le_refl _, Nat.le_refl _⟩ rfl rfl (Nat.le_of_ble_eq_true rfl) dX10_let_51 (p_X10_is hL (by decide)) ?_
              exact go_zreturn (Nat.le_refl _) (Nat.le_refl _) rfl (by decide) dX10_let_54 h
            · have h := h.2 c32
              refine go_iconst dX10_let_42 ?_
              refine go_goto 47 dX10_let_43 (by decide) ?_
              refine go_iload_n 2 dX10_let_47 rfl rfl ?_
              refine go_iastore (hL.1 108 _ rfl) (b := 500) rfl (by decide) (by decide) s25 dX10_let_48 ?_
              refine go_aload_n 0 dX10_let_49 rfl rfl ?_
              refine go_iconst dX10_let_50 ?_
              refine go_vIp (M := MX10_is) [vI 0] [] mv_X10_88 (hL.1 107 _ rfl) rfl (by decide) ⟨Nat.le_of_ble_eq_true rfl, Nat.le_of_ble_eq_true rfl⟩ ⟨Nat.le_refl _, Nat.le_refl _⟩ rfl rfl (Nat.le_of_ble_eq_true rfl) dX10_let_51 (p_X10_is hL (by decide)) ?_
              exact go_zreturn (Nat.le_refl _) (Nat.le_refl _) rfl (by decide) dX10_let_54 h
          · have h := h.2 c30
            refine go_aload_n 0 dX10_let_28 rfl rfl ?_
            refine go_iconst dX10_let_29 ?_
            refine go_vIp (M := MX10_is) [vI 1] [] mv_X10_88 (hL.1 107 _ rfl) rfl (by decide) ⟨Nat.le_of_ble_eq_true rfl, Nat.le_of_ble_eq_true rfl⟩ ⟨Nat.le_refl _, Nat.le_refl _⟩ rfl rfl (Nat.le_of_ble_eq_true rfl) dX10_let_30 (p_X10_is hL (by decide)) ?_
            exact go_zreturn (Nat.le_refl _) (Nat.le_refl _) rfl (by decide) dX10_let_33 h
theorem s_X10_likely {l : Launch} {E : Ev} {Q : Int → Sh → Dm → Prop} {G : Sh} {D : Dm} (hL : Lay G) {v1 v2 : Int}  (h : ((-2147483648 ≤ v1 ∧ v1 < 2147483648)) ∧ ((¬ ((0 ≤ v1) ∧ (v1 < (D 108 1))) → Q 0 G (upd2 D 107 1 1)) ∧ (((0 ≤ v1) ∧ (v1 < (D 108 1))) → ((-2147483648 ≤ v2 ∧ v2 < 2147483648)) ∧ ((v2 < 0 → Q 0 G (upd2 D 107 1 1)) ∧ (0 ≤ v2 → ((v2 ≤ 16 → ((0 ≤ ((58 + (5 * v1)) + 4) ∧ ((58 + (5 * v1)) + 4) < 500)) ∧ Q 1 G (upd2 (upd2 D 108 ((58 + (5 * v1)) + 4) v2) 107 1 0)) ∧ (16 < v2 → Q 0 G (upd2 D 107 1 1)))))))) : Ct l E MX10_likely 0 0 0 [vR E 107, vI v1, vI v2] G D Q := by
  refine Ct.of (by decide) (Nat.le_of_ble_eq_true rfl) ?_
  show KX10_likely l E Q 0 [(0, vR E 107), (1, vI v1), (2, vI v2)] G D
  obtain ⟨s1, h⟩ := h
  refine go_aload_n 0 dX10_likely_0 rfl rfl ?_
  refine go_iload_n 1 dX10_likely_1 rfl rfl ?_
  refine go_vIp (M := MX10_isHarm) [vI v1] [] mv_X10_216 (hL.1 107 _ rfl) rfl (by decide) ⟨Nat.le_of_ble_eq_true rfl, Nat.le_of_ble_eq_true rfl⟩ ⟨Nat.le_refl _, Nat.le_refl _⟩ rfl rfl (Nat.le_of_ble_eq_true rfl) dX10_likely_2 (p_X10_isHarm hL s1) ?_
  refine go_ifb_eq 18 dX10_likely_5 (by decide) (fun c3 => ?_) (fun c3 => ?_)
  · have h := h.1 c3
    refine go_aload_n 0 dX10_likely_18 rfl rfl ?_
    refine go_iconst dX10_likely_19 ?_
    refine go_vIp (M := MX10_is) [vI 1] [] mv_X10_88 (hL.1 107 _ rfl) rfl (by decide) ⟨Nat.le_of_ble_eq_true rfl, Nat.le_of_ble_eq_true rfl⟩ ⟨Nat.le_refl _, Nat.le_refl _⟩ rfl rfl (Nat.le_of_ble_eq_true rfl) dX10_likely_20 (p_X10_is hL (by decide)) ?_
    exact go_zreturn (Nat.le_refl _) (Nat.le_refl _) rfl (by decide) dX10_likely_23 h
  · have h := h.2 c3
    obtain ⟨s6, h⟩ := h
    refine go_iload_n 2 dX10_likely_8 rfl rfl ?_
    refine go_if_lt 18 dX10_likely_9 (by decide) s6 (fun c7 => ?_) (fun c7 => ?_)
    · have h := h.1 c7
      refine go_aload_n 0 dX10_likely_18 rfl rfl ?_
      refine go_iconst dX10_likely_19 ?_
      refine go_vIp (M := MX10_is) [vI 1] [] mv_X10_88 (hL.1 107 _ rfl) rfl (by decide) ⟨Nat.le_of_ble_eq_true rfl, Nat.le_of_ble_eq_true rfl⟩ ⟨Nat.le_refl _, Nat.le_refl _⟩ rfl rfl (Nat.le_of_ble_eq_true rfl) dX10_likely_20 (p_X10_is hL (by decide)) ?_
      exact go_zreturn (Nat.le_refl _) (Nat.le_refl _) rfl (by decide) dX10_likely_23 h
    · have h := h.2 c7
      refine go_iload_n 2 dX10_likely_12 rfl rfl ?_
      refine go_bipush dX10_likely_13 (by decide) ?_
      refine go_icmp_le 24 dX10_likely_15 (by decide) s6 (by decide) (fun c11 => ?_) (fun c11 => ?_)
      · have h := h.1 c11
        obtain ⟨s12, h⟩ := h
        refine go_aload_n 0 dX10_likely_24 rfl rfl ?_
        refine go_getR 0 f_X10_7 rfl (hL.1 107 _ rfl) (hL.2.1 107 0 _ rfl (by decide)) dX10_likely_25 ?_
        refine go_bipush dX10_likely_28 (by decide) ?_
        refine go_iconst dX10_likely_30 ?_
        refine go_iload_n 1 dX10_likely_31 rfl rfl ?_
        refine go_imul dX10_likely_32 ?_
        refine go_iadd dX10_likely_33 ?_
        refine go_iconst dX10_likely_34 ?_
        refine go_iadd dX10_likely_35 ?_
        refine go_iload_n 2 dX10_likely_36 rfl rfl ?_
        refine go_iastore (hL.1 108 _ rfl) (b := 500) rfl (by decide) s12 s6 dX10_likely_37 ?_
        refine go_aload_n 0 dX10_likely_38 rfl rfl ?_
        refine go_iconst dX10_likely_39 ?_
        refine go_vIp (M := MX10_is) [vI 0] [] mv_X10_88 (hL.1 107 _ rfl) rfl (by decide) ⟨Nat.le_of_ble_eq_true rfl, Nat.le_of_ble_eq_true rfl⟩ ⟨Nat.le_refl _, Nat.le_refl _⟩ rfl rfl (Nat.le_of_ble_eq_true rfl) dX10_likely_40 (p_X10_is hL (by decide)) ?_
        exact go_zreturn (Nat.le_refl _) (Nat.le_refl _) rfl (by decide) dX10_likely_43 h
      · have h := h.2 c11
        refine go_aload_n 0 dX10_likely_18 rfl rfl ?_
        refine go_iconst dX10_likely_19 ?_
        refine go_vIp (M := MX10_is) [vI 1] [] mv_X10_88 (hL.1 107 _ rfl) rfl (by decide) ⟨Nat.le_of_ble_eq_true rfl, Nat.le_of_ble_eq_true rfl⟩ ⟨Nat.le_refl _, Nat.le_refl _⟩ rfl rfl (Nat.le_of_ble_eq_true rfl) dX10_likely_20 (p_X10_is hL (by decide)) ?_
        exact go_zreturn (Nat.le_refl _) (Nat.le_refl _) rfl (by decide) dX10_likely_23 h
theorem s_X10_weightOf {l : Launch} {E : Ev} {Q : Int → Sh → Dm → Prop} {G : Sh} {D : Dm} (hL : Lay G) {v1 : Int}  (h : KX10_weightOf l E Q 5 [(0, vR E 107), (1, vI v1), (2, vJ 1), (4, vI 0)] G D) : Ct l E MX10_weightOf 1 0 0 [vR E 107, vI v1] G D Q := by
  refine Ct.of (by decide) (Nat.le_of_ble_eq_true rfl) ?_
  show KX10_weightOf l E Q 0 [(0, vR E 107), (1, vI v1)] G D
  refine go_lconst (x := 1) dX10_weightOf_0 rfl ?_
  refine go_lstore_n [1, 2, 0] (L' := [(0, vR E 107), (1, vI v1), (2, vJ 1)]) dX10_weightOf_1 rfl (by decide) rfl ?_
  refine go_iconst dX10_weightOf_2 ?_
  refine go_istore [1, 2, 3, 0] (L' := [(0, vR E 107), (1, vI v1), (2, vJ 1), (4, vI 0)]) dX10_weightOf_3 (by decide) rfl ?_
  exact h
theorem s_X10_weightOf_5 {l : Launch} {E : Ev} {Q : Int → Sh → Dm → Prop} {G : Sh} {D : Dm} (hL : Lay G) {v1 v2 v4 : Int}  (h : ((-2147483648 ≤ v4 ∧ v4 < 2147483648)) ∧ (((D 108 1) ≤ v4 → Q v2 G D) ∧ (v4 < (D 108 1) → (((iA (iSr v1 v4) 1) ≠ 1 → ((0 ≤ ((58 + (5 * v4)) + 4) ∧ ((58 + (5 * v4)) + 4) < 500) ∧ (-2147483648 ≤ (16 - (D 108 ((58 + (5 * v4)) + 4))) ∧ (16 - (D 108 ((58 + (5 * v4)) + 4))) < 2147483648)) ∧ KX10_weightOf l E Q 5 [(0, vR E 107), (1, vI v1), (2, vJ (v2 * (16 - (D 108 ((58 + (5 * v4)) + 4))))), (4, vI (v4 + 1))] G D) ∧ ((iA (iSr v1 v4) 1) = 1 → ((0 ≤ ((58 + (5 * v4)) + 4) ∧ ((58 + (5 * v4)) + 4) < 500)) ∧ KX10_weightOf l E Q 5 [(0, vR E 107), (1, vI v1), (2, vJ (v2 * (D 108 ((58 + (5 * v4)) + 4)))), (4, vI (v4 + 1))] G D))))) : KX10_weightOf l E Q 5 [(0, vR E 107), (1, vI v1), (2, vJ v2), (4, vI v4)] G D := by
  obtain ⟨s1, h⟩ := h
  refine go_iload 3 dX10_weightOf_5 rfl ?_
  refine go_aload_n 0 dX10_weightOf_7 rfl rfl ?_
  refine go_getR 0 f_X10_7 rfl (hL.1 107 _ rfl) (hL.2.1 107 0 _ rfl (by decide)) dX10_weightOf_8 ?_
  refine go_iconst dX10_weightOf_11 ?_
  refine go_iaload (hL.1 108 _ rfl) (b := 500) rfl (by decide) (by decide) dX10_weightOf_12 ?_
  refine go_rngI (c := 108) (i := 1) (hL.1 108 _ rfl) rfl (fun (q2 : -2147483648 ≤ (D 108 1) ∧ (D 108 1) < 2147483648) => ?_)
  refine go_icmp_ge 57 dX10_weightOf_13 (by decide) s1 q2 (fun c3 => ?_) (fun c3 => ?_)
  · have h := h.1 c3
    refine go_lload_n 2 dX10_weightOf_57 rfl rfl ?_
    exact go_lreturn (Nat.le_refl _) (Nat.le_refl _) rfl dX10_weightOf_58 h
  · have h := h.2 c3
    refine go_lload_n 2 dX10_weightOf_16 rfl rfl ?_
    refine go_iload_n 1 dX10_weightOf_17 rfl rfl ?_
    refine go_iload 3 dX10_weightOf_18 rfl ?_
    refine go_ishr dX10_weightOf_20 ?_
    refine go_iconst dX10_weightOf_21 ?_
    refine go_iand dX10_weightOf_22 ?_
    refine go_iconst dX10_weightOf_23 ?_
    refine go_icmp_ne 38 dX10_weightOf_24 (by decide) (r32 _) (by decide) (fun c6 => ?_) (fun c6 => ?_)
    · have h := h.1 c6
      obtain ⟨s7, h⟩ := h
      refine go_bipush dX10_weightOf_38 (by decide) ?_
      refine go_aload_n 0 dX10_weightOf_40 rfl rfl ?_
      refine go_iload 3 dX10_weightOf_41 rfl ?_
      refine go_iconst dX10_weightOf_43 ?_
      refine go_vIp (M := MX10_ofHarm) [vI v4, vI 4] [vI 16, vJ v2] mv_X10_207 (hL.1 107 _ rfl) rfl (by decide) ⟨Nat.le_of_ble_eq_true rfl, Nat.le_of_ble_eq_true rfl⟩ ⟨Nat.le_refl _, Nat.le_refl _⟩ rfl rfl (Nat.le_of_ble_eq_true rfl) dX10_weightOf_44 (p_X10_ofHarm hL s7.1) ?_
      refine go_isub dX10_weightOf_47 ?_
      refine go_i2l s7.2 dX10_weightOf_48 ?_
      refine go_lmul dX10_weightOf_49 ?_
      refine go_lstore_n [1, 2, 0, 3] (L' := [(0, vR E 107), (1, vI v1), (2, vJ (v2 * (16 - (D 108 ((58 + (5 * v4)) + 4))))), (4, vI v4)]) dX10_weightOf_50 rfl (by decide) rfl ?_
      refine go_iinc 3 [1, 2, 3, 0] (L' := [(0, vR E 107), (1, vI v1), (2, vJ (v2 * (16 - (D 108 ((58 + (5 * v4)) + 4))))), (4, vI (v4 + 1))]) dX10_weightOf_51 (by decide) rfl rfl ?_
      refine go_goto 5 dX10_weightOf_54 (by decide) ?_
      exact h
    · have h := h.2 c6
      obtain ⟨s9, h⟩ := h
      refine go_aload_n 0 dX10_weightOf_27 rfl rfl ?_
      refine go_iload 3 dX10_weightOf_28 rfl ?_
      refine go_iconst dX10_weightOf_30 ?_
      refine go_vIp (M := MX10_ofHarm) [vI v4, vI 4] [vJ v2] mv_X10_207 (hL.1 107 _ rfl) rfl (by decide) ⟨Nat.le_of_ble_eq_true rfl, Nat.le_of_ble_eq_true rfl⟩ ⟨Nat.le_refl _, Nat.le_refl _⟩ rfl rfl (Nat.le_of_ble_eq_true rfl) dX10_weightOf_31 (p_X10_ofHarm hL s9) ?_
      refine go_rngI (c := 108) (i := ((58 + (5 * v4)) + 4)) (hL.1 108 _ rfl) rfl (fun (q11 : -2147483648 ≤ (D 108 ((58 + (5 * v4)) + 4)) ∧ (D 108 ((58 + (5 * v4)) + 4)) < 2147483648) => ?_)
      refine go_i2l q11 dX10_weightOf_34 ?_
      refine go_goto 49 dX10_weightOf_35 (by decide) ?_
      refine go_lmul dX10_weightOf_49 ?_
      refine go_lstore_n [1, 2, 0, 3] (L' := [(0, vR E 107), (1, vI v1), (2, vJ (v2 * (D 108 ((58 + (5 * v4)) + 4)))), (4, vI v4)]) dX10_weightOf_50 rfl (by decide) rfl ?_
      refine go_iinc 3 [1, 2, 3, 0] (L' := [(0, vR E 107), (1, vI v1), (2, vJ (v2 * (D 108 ((58 + (5 * v4)) + 4)))), (4, vI (v4 + 1))]) dX10_weightOf_51 (by decide) rfl rfl ?_
      refine go_goto 5 dX10_weightOf_54 (by decide) ?_
      exact h
theorem s_X10_allLots {l : Launch} {E : Ev} {Q : Int → Sh → Dm → Prop} {G : Sh} {D : Dm} (hL : Lay G)  (h : KX10_allLots l E Q 4 [(0, vR E 107), (1, vJ 1), (3, vI 0)] G D) : Ct l E MX10_allLots 1 0 0 [vR E 107] G D Q := by
  refine Ct.of (by decide) (Nat.le_of_ble_eq_true rfl) ?_
  show KX10_allLots l E Q 0 [(0, vR E 107)] G D
  refine go_lconst (x := 1) dX10_allLots_0 rfl ?_
  refine go_lstore_n [1, 0] (L' := [(0, vR E 107), (1, vJ 1)]) dX10_allLots_1 rfl (by decide) rfl ?_
  refine go_iconst dX10_allLots_2 ?_
  refine go_istore_n [1, 2, 0] (L' := [(0, vR E 107), (1, vJ 1), (3, vI 0)]) dX10_allLots_3 rfl (by decide) rfl ?_
  exact h
theorem s_X10_allLots_4 {l : Launch} {E : Ev} {Q : Int → Sh → Dm → Prop} {G : Sh} {D : Dm} (hL : Lay G) {v1 v3 : Int}  (h : ((-2147483648 ≤ v3 ∧ v3 < 2147483648)) ∧ (((D 108 1) ≤ v3 → Q v1 G D) ∧ (v3 < (D 108 1) → KX10_allLots l E Q 4 [(0, vR E 107), (1, vJ (v1 * 16)), (3, vI (v3 + 1))] G D))) : KX10_allLots l E Q 4 [(0, vR E 107), (1, vJ v1), (3, vI v3)] G D := by
  obtain ⟨s1, h⟩ := h
  refine go_iload_n 2 dX10_allLots_4 rfl rfl ?_
  refine go_aload_n 0 dX10_allLots_5 rfl rfl ?_
  refine go_getR 0 f_X10_7 rfl (hL.1 107 _ rfl) (hL.2.1 107 0 _ rfl (by decide)) dX10_allLots_6 ?_
  refine go_iconst dX10_allLots_9 ?_
  refine go_iaload (hL.1 108 _ rfl) (b := 500) rfl (by decide) (by decide) dX10_allLots_10 ?_
  refine go_rngI (c := 108) (i := 1) (hL.1 108 _ rfl) rfl (fun (q2 : -2147483648 ≤ (D 108 1) ∧ (D 108 1) < 2147483648) => ?_)
  refine go_icmp_ge 26 dX10_allLots_11 (by decide) s1 q2 (fun c3 => ?_) (fun c3 => ?_)
  · have h := h.1 c3
    refine go_lload_n 1 dX10_allLots_26 rfl rfl ?_
    exact go_lreturn (Nat.le_refl _) (Nat.le_refl _) rfl dX10_allLots_27 h
  · have h := h.2 c3
    refine go_lload_n 1 dX10_allLots_14 rfl rfl ?_
    refine go_ldc2 (x := 16) k_X10_232 dX10_allLots_15 ?_
    refine go_lmul dX10_allLots_18 ?_
    refine go_lstore_n [1, 0, 2] (L' := [(0, vR E 107), (1, vJ (v1 * 16)), (3, vI v3)]) dX10_allLots_19 rfl (by decide) rfl ?_
    refine go_iinc 2 [1, 2, 0] (L' := [(0, vR E 107), (1, vJ (v1 * 16)), (3, vI (v3 + 1))]) dX10_allLots_20 (by decide) rfl rfl ?_
    refine go_goto 4 dX10_allLots_23 (by decide) ?_
    exact h
theorem s_X10_leftOf {l : Launch} {E : Ev} {Q : Int → Sh → Dm → Prop} {G : Sh} {D : Dm} (hL : Lay G) {v1 v2 : Int}  (h : KX10_leftOf l E Q 5 [(0, vR E 107), (1, vI v1), (2, vI v2), (3, vI 0), (4, vI 0)] G D) : Ct l E MX10_leftOf 0 0 0 [vR E 107, vI v1, vI v2] G D Q := by
  refine Ct.of (by decide) (Nat.le_of_ble_eq_true rfl) ?_
  show KX10_leftOf l E Q 0 [(0, vR E 107), (1, vI v1), (2, vI v2)] G D
  refine go_iconst dX10_leftOf_0 ?_
  refine go_istore_n [1, 2, 3, 0] (L' := [(0, vR E 107), (1, vI v1), (2, vI v2), (3, vI 0)]) dX10_leftOf_1 rfl (by decide) rfl ?_
  refine go_iconst dX10_leftOf_2 ?_
  refine go_istore [1, 2, 3, 4, 0] (L' := [(0, vR E 107), (1, vI v1), (2, vI v2), (3, vI 0), (4, vI 0)]) dX10_leftOf_3 (by decide) rfl ?_
  exact h
theorem s_X10_leftOf_5 {l : Launch} {E : Ev} {Q : Int → Sh → Dm → Prop} {G : Sh} {D : Dm} (hL : Lay G) {v1 v2 v3 v4 : Int}  (h : ((-2147483648 ≤ v4 ∧ v4 < 2147483648)) ∧ (((D 108 1) ≤ v4 → ((0 ≤ ((8 + (5 * v1)) + 2) ∧ ((8 + (5 * v1)) + 2) < 500) ∧ (-2147483648 ≤ v3 ∧ v3 < 2147483648) ∧ (-2147483648 ≤ ((iSr (D 108 ((8 + (5 * v1)) + 2)) (D 107 20)) * (8 - (min 8 v3))) ∧ ((iSr (D 108 ((8 + (5 * v1)) + 2)) (D 107 20)) * (8 - (min 8 v3))) < 2147483648)) ∧ Q (Int.tdiv ((iSr (D 108 ((8 + (5 * v1)) + 2)) (D 107 20)) * (8 - (min 8 v3))) 8) G D) ∧ (v4 < (D 108 1) → (((iA (iSr v2 v4) 1) ≠ 1 → KX10_leftOf l E Q 5 [(0, vR E 107), (1, vI v1), (2, vI v2), (3, vI (v3 + 0)), (4, vI (v4 + 1))] G D) ∧ ((iA (iSr v2 v4) 1) = 1 → ((0 ≤ ((58 + (5 * v4)) + 0) ∧ ((58 + (5 * v4)) + 0) < 500) ∧ (0 ≤ ((8 + (5 * v1)) + 3) ∧ ((8 + (5 * v1)) + 3) < 500) ∧ (0 ≤ ((58 + (5 * v4)) + 1) ∧ ((58 + (5 * v4)) + 1) < 500) ∧ (0 ≤ ((8 + (5 * v1)) + 1) ∧ ((8 + (5 * v1)) + 1) < 500) ∧ (0 ≤ ((8 + (5 * v1)) + 0) ∧ ((8 + (5 * v1)) + 0) < 500) ∧ (0 ≤ ((58 + (5 * v4)) + 2) ∧ ((58 + (5 * v4)) + 2) < 500)) ∧ ((¬ (((D 108 ((58 + (5 * v4)) + 0)) ≠ 0) ∧ (((D 108 ((58 + (5 * v4)) + 0)) = 3) ∨ (((D 108 ((58 + (5 * v4)) + 0)) ≠ 1) ∧ ((D 108 ((8 + (5 * v1)) + 3)) = (D 108 ((58 + (5 * v4)) + 1))) ∨ ((D 108 ((58 + (5 * v4)) + 0)) = 1) ∧ ((D 108 ((8 + (5 * v1)) + 1)) < (D 108 ((58 + (5 * v4)) + 1))))) ∨ ((D 108 ((58 + (5 * v4)) + 0)) = 0) ∧ (((D 108 ((58 + (5 * v4)) + 1)) ≤ (D 108 ((8 + (5 * v1)) + 0))) ∧ ((D 108 ((8 + (5 * v1)) + 0)) ≤ (D 108 ((58 + (5 * v4)) + 2))))) → KX10_leftOf l E Q 5 [(0, vR E 107), (1, vI v1), (2, vI v2), (3, vI (v3 + 0)), (4, vI (v4 + 1))] G D) ∧ ((((D 108 ((58 + (5 * v4)) + 0)) ≠ 0) ∧ (((D 108 ((58 + (5 * v4)) + 0)) = 3) ∨ (((D 108 ((58 + (5 * v4)) + 0)) ≠ 1) ∧ ((D 108 ((8 + (5 * v1)) + 3)) = (D 108 ((58 + (5 * v4)) + 1))) ∨ ((D 108 ((58 + (5 * v4)) + 0)) = 1) ∧ ((D 108 ((8 + (5 * v1)) + 1)) < (D 108 ((58 + (5 * v4)) + 1))))) ∨ ((D 108 ((58 + (5 * v4)) + 0)) = 0) ∧ (((D 108 ((58 + (5 * v4)) + 1)) ≤ (D 108 ((8 + (5 * v1)) + 0))) ∧ ((D 108 ((8 + (5 * v1)) + 0)) ≤ (D 108 ((58 + (5 * v4)) + 2))))) → ((0 ≤ ((58 + (5 * v4)) + 3) ∧ ((58 + (5 * v4)) + 3) < 500)) ∧ KX10_leftOf l E Q 5 [(0, vR E 107), (1, vI v1), (2, vI v2), (3, vI (v3 + (D 108 ((58 + (5 * v4)) + 3)))), (4, vI (v4 + 1))] G D))))))) : KX10_leftOf l E Q 5 [(0, vR E 107), (1, vI v1), (2, vI v2), (3, vI v3), (4, vI v4)] G D := by
  obtain ⟨s1, h⟩ := h
  refine go_iload 4 dX10_leftOf_5 rfl ?_
  refine go_aload_n 0 dX10_leftOf_7 rfl rfl ?_
  refine go_getR 0 f_X10_7 rfl (hL.1 107 _ rfl) (hL.2.1 107 0 _ rfl (by decide)) dX10_leftOf_8 ?_
  refine go_iconst dX10_leftOf_11 ?_
  refine go_iaload (hL.1 108 _ rfl) (b := 500) rfl (by decide) (by decide) dX10_leftOf_12 ?_
  refine go_rngI (c := 108) (i := 1) (hL.1 108 _ rfl) rfl (fun (q2 : -2147483648 ≤ (D 108 1) ∧ (D 108 1) < 2147483648) => ?_)
  refine go_icmp_ge 56 dX10_leftOf_13 (by decide) s1 q2 (fun c3 => ?_) (fun c3 => ?_)
  · have h := h.1 c3
    obtain ⟨s4, h⟩ := h
    refine go_aload_n 0 dX10_leftOf_56 rfl rfl ?_
    refine go_iload_n 1 dX10_leftOf_57 rfl rfl ?_
    refine go_iconst dX10_leftOf_58 ?_
    refine go_vIp (M := MX10_ofStrip) [vI v1, vI 2] [] mv_X10_210 (hL.1 107 _ rfl) rfl (by decide) ⟨Nat.le_of_ble_eq_true rfl, Nat.le_of_ble_eq_true rfl⟩ ⟨Nat.le_refl _, Nat.le_refl _⟩ rfl rfl (Nat.le_of_ble_eq_true rfl) dX10_leftOf_59 (p_X10_ofStrip hL s4.1) ?_
    refine go_aload_n 0 dX10_leftOf_62 rfl rfl ?_
    refine go_getI 20 (i := 20) f_X10_234 rfl (hL.1 107 _ rfl) dX10_leftOf_63 ?_
    refine go_ishr dX10_leftOf_66 ?_
    refine go_bipush dX10_leftOf_67 (by decide) ?_
    refine go_bipush dX10_leftOf_69 (by decide) ?_
    refine go_iload_n 3 dX10_leftOf_71 rfl rfl ?_
    refine go_mmin ma_X10_137 (by decide) s4.2.1 ⟨by decide, Nat.le_of_ble_eq_true rfl⟩ ⟨Nat.le_refl _, Nat.le_refl _⟩ dX10_leftOf_72 ?_
    refine go_isub dX10_leftOf_75 ?_
    refine go_imul dX10_leftOf_76 ?_
    refine go_bipush dX10_leftOf_77 (by decide) ?_
    refine go_idiv ⟨s4.2.2, (by decide)⟩ dX10_leftOf_79 ?_
    exact go_ireturn (Nat.le_refl _) (Nat.le_refl _) rfl dX10_leftOf_80 h
  · have h := h.2 c3
    refine go_iload_n 3 dX10_leftOf_16 rfl rfl ?_
    refine go_iload_n 2 dX10_leftOf_17 rfl rfl ?_
    refine go_iload 4 dX10_leftOf_18 rfl ?_
    refine go_ishr dX10_leftOf_20 ?_
    refine go_iconst dX10_leftOf_21 ?_
    refine go_iand dX10_leftOf_22 ?_
    refine go_iconst dX10_leftOf_23 ?_
    refine go_icmp_ne 47 dX10_leftOf_24 (by decide) (r32 _) (by decide) (fun c7 => ?_) (fun c7 => ?_)
    · have h := h.1 c7
      refine go_iconst dX10_leftOf_47 ?_
      refine go_iadd dX10_leftOf_48 ?_
      refine go_istore_n [1, 2, 3, 0, 4] (L' := [(0, vR E 107), (1, vI v1), (2, vI v2), (3, vI (v3 + 0)), (4, vI v4)]) dX10_leftOf_49 rfl (by decide) rfl ?_
      refine go_iinc 4 [1, 2, 3, 4, 0] (L' := [(0, vR E 107), (1, vI v1), (2, vI v2), (3, vI (v3 + 0)), (4, vI (v4 + 1))]) dX10_leftOf_50 (by decide) rfl rfl ?_
      refine go_goto 5 dX10_leftOf_53 (by decide) ?_
      exact h
    · have h := h.2 c7
      obtain ⟨s9, h⟩ := h
      refine go_aload_n 0 dX10_leftOf_27 rfl rfl ?_
      refine go_iload 4 dX10_leftOf_28 rfl ?_
      refine go_iload_n 1 dX10_leftOf_30 rfl rfl ?_
      refine go_vIp (M := MX10_falls) [vI v4, vI v1] [vI v3] mv_X10_219 (hL.1 107 _ rfl) rfl (by decide) ⟨Nat.le_of_ble_eq_true rfl, Nat.le_of_ble_eq_true rfl⟩ ⟨Nat.le_refl _, Nat.le_refl _⟩ rfl rfl (Nat.le_of_ble_eq_true rfl) dX10_leftOf_31 (p_X10_falls hL s9.1 s9.2.1 s9.2.2.1 s9.2.2.2.1 s9.2.2.2.2.1 s9.2.2.2.2.2) ?_
      refine go_ifb_eq 47 dX10_leftOf_34 (by decide) (fun c11 => ?_) (fun c11 => ?_)
      · have h := h.1 c11
        refine go_iconst dX10_leftOf_47 ?_
        refine go_iadd dX10_leftOf_48 ?_
        refine go_istore_n [1, 2, 3, 0, 4] (L' := [(0, vR E 107), (1, vI v1), (2, vI v2), (3, vI (v3 + 0)), (4, vI v4)]) dX10_leftOf_49 rfl (by decide) rfl ?_
        refine go_iinc 4 [1, 2, 3, 4, 0] (L' := [(0, vR E 107), (1, vI v1), (2, vI v2), (3, vI (v3 + 0)), (4, vI (v4 + 1))]) dX10_leftOf_50 (by decide) rfl rfl ?_
        refine go_goto 5 dX10_leftOf_53 (by decide) ?_
        exact h
      · have h := h.2 c11
        obtain ⟨s13, h⟩ := h
        refine go_aload_n 0 dX10_leftOf_37 rfl rfl ?_
        refine go_iload 4 dX10_leftOf_38 rfl ?_
        refine go_iconst dX10_leftOf_40 ?_
        refine go_vIp (M := MX10_ofHarm) [vI v4, vI 3] [vI v3] mv_X10_207 (hL.1 107 _ rfl) rfl (by decide) ⟨Nat.le_of_ble_eq_true rfl, Nat.le_of_ble_eq_true rfl⟩ ⟨Nat.le_refl _, Nat.le_refl _⟩ rfl rfl (Nat.le_of_ble_eq_true rfl) dX10_leftOf_41 (p_X10_ofHarm hL s13) ?_
        refine go_goto 48 dX10_leftOf_44 (by decide) ?_
        refine go_iadd dX10_leftOf_48 ?_
        refine go_istore_n [1, 2, 3, 0, 4] (L' := [(0, vR E 107), (1, vI v1), (2, vI v2), (3, vI (v3 + (D 108 ((58 + (5 * v4)) + 3)))), (4, vI v4)]) dX10_leftOf_49 rfl (by decide) rfl ?_
        refine go_iinc 4 [1, 2, 3, 4, 0] (L' := [(0, vR E 107), (1, vI v1), (2, vI v2), (3, vI (v3 + (D 108 ((58 + (5 * v4)) + 3)))), (4, vI (v4 + 1))]) dX10_leftOf_50 (by decide) rfl rfl ?_
        refine go_goto 5 dX10_leftOf_53 (by decide) ?_
        exact h
theorem s_X10_apart {l : Launch} {E : Ev} {Q : Int → Sh → Dm → Prop} {G : Sh} {D : Dm} (hL : Lay G) {v0 v1 v2 v3 : Int}  (h : ((-2147483648 < (v0 - v2) ∧ (v0 - v2) < 2147483648) ∧ (-2147483648 < (v1 - v3) ∧ (v1 - v3) < 2147483648)) ∧ Q (((Int.natAbs (v0 - v2) : Nat) : Int) + ((Int.natAbs (v1 - v3) : Nat) : Int)) G D) : Ct l E MX10_apart 0 0 0 [vI v0, vI v1, vI v2, vI v3] G D Q := by
  refine Ct.of (by decide) (Nat.le_of_ble_eq_true rfl) ?_
  show KX10_apart l E Q 0 [(0, vI v0), (1, vI v1), (2, vI v2), (3, vI v3)] G D
  obtain ⟨s1, h⟩ := h
  refine go_iload_n 0 dX10_apart_0 rfl rfl ?_
  refine go_iload_n 2 dX10_apart_1 rfl rfl ?_
  refine go_isub dX10_apart_2 ?_
  refine go_mabs ma_X10_237 s1.1 ⟨by decide, Nat.le_of_ble_eq_true rfl⟩ ⟨Nat.le_refl _, Nat.le_refl _⟩ dX10_apart_3 ?_
  refine go_iload_n 1 dX10_apart_6 rfl rfl ?_
  refine go_iload_n 3 dX10_apart_7 rfl rfl ?_
  refine go_isub dX10_apart_8 ?_
  refine go_mabs ma_X10_237 s1.2 ⟨by decide, Nat.le_of_ble_eq_true rfl⟩ ⟨Nat.le_refl _, Nat.le_refl _⟩ dX10_apart_9 ?_
  refine go_iadd dX10_apart_12 ?_
  exact go_ireturn (Nat.le_refl _) (Nat.le_refl _) rfl dX10_apart_13 h
theorem p_X10_apart {l : Launch} {E : Ev} {G : Sh} {D : Dm} (hL : Lay G) {v0 v1 v2 v3 : Int}  (q0 : -2147483648 < (v0 - v2) ∧ (v0 - v2) < 2147483648) (q1 : -2147483648 < (v1 - v3) ∧ (v1 - v3) < 2147483648) : C0 l E MX10_apart 0 [vI v0, vI v1, vI v2, vI v3] G D (fun r D' => r = (((Int.natAbs (v0 - v2) : Nat) : Int) + ((Int.natAbs (v1 - v3) : Nat) : Int)) ∧ D' = D) := s_X10_apart hL ⟨⟨q0, q1⟩, ⟨rfl, rfl, rfl⟩⟩
theorem s_X10_roundOf {l : Launch} {E : Ev} {Q : Int → Sh → Dm → Prop} {G : Sh} {D : Dm} (hL : Lay G) {v1 v2 : Int}  (h : ((-2147483648 ≤ v2 ∧ v2 < 2147483648)) ∧ ((v2 ≠ 0 → KX10_roundOf l E Q 23 [(0, vR E 107), (1, vI v1), (2, vI v2), (3, vI (D 108 0)), (4, vI 1000000), (5, vI (iA v2 (-v2)))] G D) ∧ (v2 = 0 → Q 0 G D))) : Ct l E MX10_roundOf 0 0 0 [vR E 107, vI v1, vI v2] G D Q := by
  refine Ct.of (by decide) (Nat.le_of_ble_eq_true rfl) ?_
  show KX10_roundOf l E Q 0 [(0, vR E 107), (1, vI v1), (2, vI v2)] G D
  obtain ⟨s1, h⟩ := h
  refine go_iload_n 2 dX10_roundOf_0 rfl rfl ?_
  refine go_if_ne 6 dX10_roundOf_1 (by decide) s1 (fun c2 => ?_) (fun c2 => ?_)
  · have h := h.1 c2
    refine go_aload_n 0 dX10_roundOf_6 rfl rfl ?_
    refine go_getR 0 f_X10_7 rfl (hL.1 107 _ rfl) (hL.2.1 107 0 _ rfl (by decide)) dX10_roundOf_7 ?_
    refine go_iconst dX10_roundOf_10 ?_
    refine go_iaload (hL.1 108 _ rfl) (b := 500) rfl (by decide) (by decide) dX10_roundOf_11 ?_
    refine go_istore_n [1, 2, 3, 0] (L' := [(0, vR E 107), (1, vI v1), (2, vI v2), (3, vI (D 108 0))]) dX10_roundOf_12 rfl (by decide) rfl ?_
    refine go_ldc (x := 1000000) k_X10_240 dX10_roundOf_13 ?_
    refine go_istore [1, 2, 3, 4, 0] (L' := [(0, vR E 107), (1, vI v1), (2, vI v2), (3, vI (D 108 0)), (4, vI 1000000)]) dX10_roundOf_15 (by decide) rfl ?_
    refine go_iload_n 2 dX10_roundOf_17 rfl rfl ?_
    refine go_iload_n 2 dX10_roundOf_18 rfl rfl ?_
    refine go_ineg dX10_roundOf_19 ?_
    refine go_iand dX10_roundOf_20 ?_
    refine go_istore [1, 2, 3, 4, 5, 0] (L' := [(0, vR E 107), (1, vI v1), (2, vI v2), (3, vI (D 108 0)), (4, vI 1000000), (5, vI (iA v2 (-v2)))]) dX10_roundOf_21 (by decide) rfl ?_
    exact h
  · have h := h.2 c2
    refine go_iconst dX10_roundOf_4 ?_
    exact go_ireturn (Nat.le_refl _) (Nat.le_refl _) rfl dX10_roundOf_5 h
theorem s_X10_roundOf_23 {l : Launch} {E : Ev} {Q : Int → Sh → Dm → Prop} {G : Sh} {D : Dm} (hL : Lay G) {v1 v2 v3 v4 v5 : Int}  (h : ((-2147483648 ≤ v5 ∧ v5 < 2147483648)) ∧ ((v5 = 0 → Q v4 G D) ∧ (v5 ≠ 0 → KX10_roundOf l E Q 31 [(0, vR E 107), (1, vI v1), (2, vI v2), (3, vI v3), (4, vI v4), (5, vI v5), (6, vI 0)] G D))) : KX10_roundOf l E Q 23 [(0, vR E 107), (1, vI v1), (2, vI v2), (3, vI v3), (4, vI v4), (5, vI v5)] G D := by
  obtain ⟨s1, h⟩ := h
  refine go_iload 5 dX10_roundOf_23 rfl ?_
  refine go_if_eq 232 dX10_roundOf_25 (by decide) s1 (fun c2 => ?_) (fun c2 => ?_)
  · have h := h.1 c2
    refine go_iload 4 dX10_roundOf_232 rfl ?_
    exact go_ireturn (Nat.le_refl _) (Nat.le_refl _) rfl dX10_roundOf_234 h
  · have h := h.2 c2
    refine go_iconst dX10_roundOf_28 ?_
    refine go_istore [1, 2, 3, 4, 5, 6, 0] (L' := [(0, vR E 107), (1, vI v1), (2, vI v2), (3, vI v3), (4, vI v4), (5, vI v5), (6, vI 0)]) dX10_roundOf_29 (by decide) rfl ?_
    exact h
theorem s_X10_roundOf_31 {l : Launch} {E : Ev} {Q : Int → Sh → Dm → Prop} {G : Sh} {D : Dm} (hL : Lay G) {v1 v2 v3 v4 v5 v6 : Int}  (h : ((-2147483648 ≤ v6 ∧ v6 < 2147483648) ∧ (-2147483648 ≤ v3 ∧ v3 < 2147483648)) ∧ ((v3 ≤ v6 → KX10_roundOf l E Q 23 [(0, vR E 107), (1, vI v1), (2, vI v2), (3, vI v3), (4, vI v4), (5, vI (iA (v5 - v2) v2))] G D) ∧ (v6 < v3 → (((iA (iSr v5 v6) 1) ≠ 0 → ((0 ≤ ((8 + (5 * v6)) + 0) ∧ ((8 + (5 * v6)) + 0) < 500) ∧ (0 ≤ ((8 + (5 * v6)) + 1) ∧ ((8 + (5 * v6)) + 1) < 500) ∧ (0 ≤ ((88 + (3 * v1)) + 0) ∧ ((88 + (3 * v1)) + 0) < 500) ∧ (0 ≤ ((88 + (3 * v1)) + 1) ∧ ((88 + (3 * v1)) + 1) < 500) ∧ (-2147483648 < ((D 108 ((8 + (5 * v6)) + 0)) - (D 108 ((88 + (3 * v1)) + 0))) ∧ ((D 108 ((8 + (5 * v6)) + 0)) - (D 108 ((88 + (3 * v1)) + 0))) < 2147483648) ∧ (-2147483648 < ((D 108 ((8 + (5 * v6)) + 1)) - (D 108 ((88 + (3 * v1)) + 1))) ∧ ((D 108 ((8 + (5 * v6)) + 1)) - (D 108 ((88 + (3 * v1)) + 1))) < 2147483648)) ∧ (((iA v5 (iX (iSl 1 v6) (-1))) ≠ 0 → KX10_roundOf l E Q 117 [(0, vR E 107), (1, vI v1), (2, vI v2), (3, vI v3), (4, vI v4), (5, vI v5), (6, vI v6), (7, vI (D 108 ((8 + (5 * v6)) + 0))), (8, vI (D 108 ((8 + (5 * v6)) + 1))), (9, vI (((Int.natAbs ((D 108 ((8 + (5 * v6)) + 0)) - (D 108 ((88 + (3 * v1)) + 0))) : Nat) : Int) + ((Int.natAbs ((D 108 ((8 + (5 * v6)) + 1)) - (D 108 ((88 + (3 * v1)) + 1))) : Nat) : Int))), (10, vI (iA v5 (iX (iSl 1 v6) (-1)))), (11, vI 1000000), (12, vI 0)] G D) ∧ ((iA v5 (iX (iSl 1 v6) (-1))) = 0 → KX10_roundOf l E Q 117 [(0, vR E 107), (1, vI v1), (2, vI v2), (3, vI v3), (4, vI v4), (5, vI v5), (6, vI v6), (7, vI (D 108 ((8 + (5 * v6)) + 0))), (8, vI (D 108 ((8 + (5 * v6)) + 1))), (9, vI (((Int.natAbs ((D 108 ((8 + (5 * v6)) + 0)) - (D 108 ((88 + (3 * v1)) + 0))) : Nat) : Int) + ((Int.natAbs ((D 108 ((8 + (5 * v6)) + 1)) - (D 108 ((88 + (3 * v1)) + 1))) : Nat) : Int))), (10, vI (iA v5 (iX (iSl 1 v6) (-1)))), (11, vI (((Int.natAbs ((D 108 ((8 + (5 * v6)) + 0)) - (D 108 ((88 + (3 * v1)) + 0))) : Nat) : Int) + ((Int.natAbs ((D 108 ((8 + (5 * v6)) + 1)) - (D 108 ((88 + (3 * v1)) + 1))) : Nat) : Int))), (12, vI 0)] G D))) ∧ ((iA (iSr v5 v6) 1) = 0 → KX10_roundOf l E Q 31 [(0, vR E 107), (1, vI v1), (2, vI v2), (3, vI v3), (4, vI v4), (5, vI v5), (6, vI (v6 + 1))] G D))))) : KX10_roundOf l E Q 31 [(0, vR E 107), (1, vI v1), (2, vI v2), (3, vI v3), (4, vI v4), (5, vI v5), (6, vI v6)] G D := by
  obtain ⟨s1, h⟩ := h
  refine go_iload 6 dX10_roundOf_31 rfl ?_
  refine go_iload_n 3 dX10_roundOf_33 rfl rfl ?_
  refine go_icmp_ge 221 dX10_roundOf_34 (by decide) s1.1 s1.2 (fun c2 => ?_) (fun c2 => ?_)
  · have h := h.1 c2
    refine go_iload 5 dX10_roundOf_221 rfl ?_
    refine go_iload_n 2 dX10_roundOf_223 rfl rfl ?_
    refine go_isub dX10_roundOf_224 ?_
    refine go_iload_n 2 dX10_roundOf_225 rfl rfl ?_
    refine go_iand dX10_roundOf_226 ?_
    refine go_istore [1, 2, 3, 4, 5, 0, 6] (L' := [(0, vR E 107), (1, vI v1), (2, vI v2), (3, vI v3), (4, vI v4), (5, vI (iA (v5 - v2) v2)), (6, vI v6)]) dX10_roundOf_227 (by decide) rfl ?_
    refine go_goto 23 dX10_roundOf_229 (by decide) ?_
    refine go_sub [0, 1, 2, 3, 4, 5] (L' := [(0, vR E 107), (1, vI v1), (2, vI v2), (3, vI v3), (4, vI v4), (5, vI (iA (v5 - v2) v2))]) rfl ?_
    exact h
  · have h := h.2 c2
    refine go_iload 5 dX10_roundOf_37 rfl ?_
    refine go_iload 6 dX10_roundOf_39 rfl ?_
    refine go_ishr dX10_roundOf_41 ?_
    refine go_iconst dX10_roundOf_42 ?_
    refine go_iand dX10_roundOf_43 ?_
    refine go_if_ne 50 dX10_roundOf_44 (by decide) (r32 _) (fun c5 => ?_) (fun c5 => ?_)
    · have h := h.1 c5
      obtain ⟨s6, h⟩ := h
      refine go_aload_n 0 dX10_roundOf_50 rfl rfl ?_
      refine go_iload 6 dX10_roundOf_51 rfl ?_
      refine go_iconst dX10_roundOf_53 ?_
      refine go_vIp (M := MX10_ofStrip) [vI v6, vI 0] [] mv_X10_210 (hL.1 107 _ rfl) rfl (by decide) ⟨Nat.le_of_ble_eq_true rfl, Nat.le_of_ble_eq_true rfl⟩ ⟨Nat.le_refl _, Nat.le_refl _⟩ rfl rfl (Nat.le_of_ble_eq_true rfl) dX10_roundOf_54 (p_X10_ofStrip hL s6.1) ?_
      refine go_istore [1, 2, 3, 4, 5, 6, 7, 0] (L' := [(0, vR E 107), (1, vI v1), (2, vI v2), (3, vI v3), (4, vI v4), (5, vI v5), (6, vI v6), (7, vI (D 108 ((8 + (5 * v6)) + 0)))]) dX10_roundOf_57 (by decide) rfl ?_
      refine go_aload_n 0 dX10_roundOf_59 rfl rfl ?_
      refine go_iload 6 dX10_roundOf_60 rfl ?_
      refine go_iconst dX10_roundOf_62 ?_
      refine go_vIp (M := MX10_ofStrip) [vI v6, vI 1] [] mv_X10_210 (hL.1 107 _ rfl) rfl (by decide) ⟨Nat.le_of_ble_eq_true rfl, Nat.le_of_ble_eq_true rfl⟩ ⟨Nat.le_refl _, Nat.le_refl _⟩ rfl rfl (Nat.le_of_ble_eq_true rfl) dX10_roundOf_63 (p_X10_ofStrip hL s6.2.1) ?_
      refine go_istore [1, 2, 3, 4, 5, 6, 7, 8, 0] (L' := [(0, vR E 107), (1, vI v1), (2, vI v2), (3, vI v3), (4, vI v4), (5, vI v5), (6, vI v6), (7, vI (D 108 ((8 + (5 * v6)) + 0))), (8, vI (D 108 ((8 + (5 * v6)) + 1)))]) dX10_roundOf_66 (by decide) rfl ?_
      refine go_iload 7 dX10_roundOf_68 rfl ?_
      refine go_iload 8 dX10_roundOf_70 rfl ?_
      refine go_aload_n 0 dX10_roundOf_72 rfl rfl ?_
      refine go_iload_n 1 dX10_roundOf_73 rfl rfl ?_
      refine go_iconst dX10_roundOf_74 ?_
      refine go_vIp (M := MX10_ofFamily) [vI v1, vI 0] [vI (D 108 ((8 + (5 * v6)) + 1)), vI (D 108 ((8 + (5 * v6)) + 0))] mv_X10_226 (hL.1 107 _ rfl) rfl (by decide) ⟨Nat.le_of_ble_eq_true rfl, Nat.le_of_ble_eq_true rfl⟩ ⟨Nat.le_refl _, Nat.le_refl _⟩ rfl rfl (Nat.le_of_ble_eq_true rfl) dX10_roundOf_75 (p_X10_ofFamily hL s6.2.2.1) ?_
      refine go_aload_n 0 dX10_roundOf_78 rfl rfl ?_
      refine go_iload_n 1 dX10_roundOf_79 rfl rfl ?_
      refine go_iconst dX10_roundOf_80 ?_
      refine go_vIp (M := MX10_ofFamily) [vI v1, vI 1] [vI (D 108 ((88 + (3 * v1)) + 0)), vI (D 108 ((8 + (5 * v6)) + 1)), vI (D 108 ((8 + (5 * v6)) + 0))] mv_X10_226 (hL.1 107 _ rfl) rfl (by decide) ⟨Nat.le_of_ble_eq_true rfl, Nat.le_of_ble_eq_true rfl⟩ ⟨Nat.le_refl _, Nat.le_refl _⟩ rfl rfl (Nat.le_of_ble_eq_true rfl) dX10_roundOf_81 (p_X10_ofFamily hL s6.2.2.2.1) ?_
      refine go_sIp (M := MX10_apart) [vI (D 108 ((8 + (5 * v6)) + 0)), vI (D 108 ((8 + (5 * v6)) + 1)), vI (D 108 ((88 + (3 * v1)) + 0)), vI (D 108 ((88 + (3 * v1)) + 1))] [] ms_X10_241 ⟨Nat.le_of_ble_eq_true rfl, Nat.le_of_ble_eq_true rfl⟩ ⟨Nat.le_refl _, Nat.le_refl _⟩ rfl rfl (Nat.le_of_ble_eq_true rfl) dX10_roundOf_84 (p_X10_apart hL s6.2.2.2.2.1 s6.2.2.2.2.2) ?_
      refine go_istore [1, 2, 3, 4, 5, 6, 7, 8, 9, 0] (L' := [(0, vR E 107), (1, vI v1), (2, vI v2), (3, vI v3), (4, vI v4), (5, vI v5), (6, vI v6), (7, vI (D 108 ((8 + (5 * v6)) + 0))), (8, vI (D 108 ((8 + (5 * v6)) + 1))), (9, vI (((Int.natAbs ((D 108 ((8 + (5 * v6)) + 0)) - (D 108 ((88 + (3 * v1)) + 0))) : Nat) : Int) + ((Int.natAbs ((D 108 ((8 + (5 * v6)) + 1)) - (D 108 ((88 + (3 * v1)) + 1))) : Nat) : Int)))]) dX10_roundOf_87 (by decide) rfl ?_
      refine go_iload 5 dX10_roundOf_89 rfl ?_
      refine go_iconst dX10_roundOf_91 ?_
      refine go_iload 6 dX10_roundOf_92 rfl ?_
      refine go_ishl dX10_roundOf_94 ?_
      refine go_iconst dX10_roundOf_95 ?_
      refine go_ixor dX10_roundOf_96 ?_
      refine go_iand dX10_roundOf_97 ?_
      refine go_istore [1, 2, 3, 4, 5, 6, 7, 8, 9, 10, 0] (L' := [(0, vR E 107), (1, vI v1), (2, vI v2), (3, vI v3), (4, vI v4), (5, vI v5), (6, vI v6), (7, vI (D 108 ((8 + (5 * v6)) + 0))), (8, vI (D 108 ((8 + (5 * v6)) + 1))), (9, vI (((Int.natAbs ((D 108 ((8 + (5 * v6)) + 0)) - (D 108 ((88 + (3 * v1)) + 0))) : Nat) : Int) + ((Int.natAbs ((D 108 ((8 + (5 * v6)) + 1)) - (D 108 ((88 + (3 * v1)) + 1))) : Nat) : Int))), (10, vI (iA v5 (iX (iSl 1 v6) (-1))))]) dX10_roundOf_98 (by decide) rfl ?_
      refine go_iload 10 dX10_roundOf_100 rfl ?_
      refine go_if_ne 110 dX10_roundOf_102 (by decide) (r32 _) (fun c12 => ?_) (fun c12 => ?_)
      · have h := h.1 c12
        refine go_ldc (x := 1000000) k_X10_240 dX10_roundOf_110 ?_
        refine go_istore [1, 2, 3, 4, 5, 6, 7, 8, 9, 10, 11, 0] (L' := [(0, vR E 107), (1, vI v1), (2, vI v2), (3, vI v3), (4, vI v4), (5, vI v5), (6, vI v6), (7, vI (D 108 ((8 + (5 * v6)) + 0))), (8, vI (D 108 ((8 + (5 * v6)) + 1))), (9, vI (((Int.natAbs ((D 108 ((8 + (5 * v6)) + 0)) - (D 108 ((88 + (3 * v1)) + 0))) : Nat) : Int) + ((Int.natAbs ((D 108 ((8 + (5 * v6)) + 1)) - (D 108 ((88 + (3 * v1)) + 1))) : Nat) : Int))), (10, vI (iA v5 (iX (iSl 1 v6) (-1)))), (11, vI 1000000)]) dX10_roundOf_112 (by decide) rfl ?_
        refine go_iconst dX10_roundOf_114 ?_
        refine go_istore [1, 2, 3, 4, 5, 6, 7, 8, 9, 10, 11, 12, 0] (L' := [(0, vR E 107), (1, vI v1), (2, vI v2), (3, vI v3), (4, vI v4), (5, vI v5), (6, vI v6), (7, vI (D 108 ((8 + (5 * v6)) + 0))), (8, vI (D 108 ((8 + (5 * v6)) + 1))), (9, vI (((Int.natAbs ((D 108 ((8 + (5 * v6)) + 0)) - (D 108 ((88 + (3 * v1)) + 0))) : Nat) : Int) + ((Int.natAbs ((D 108 ((8 + (5 * v6)) + 1)) - (D 108 ((88 + (3 * v1)) + 1))) : Nat) : Int))), (10, vI (iA v5 (iX (iSl 1 v6) (-1)))), (11, vI 1000000), (12, vI 0)]) dX10_roundOf_115 (by decide) rfl ?_
        exact h
      · have h := h.2 c12
        refine go_iload 9 dX10_roundOf_105 rfl ?_
        refine go_goto 112 dX10_roundOf_107 (by decide) ?_
        refine go_istore [1, 2, 3, 4, 5, 6, 7, 8, 9, 10, 11, 0] (L' := [(0, vR E 107), (1, vI v1), (2, vI v2), (3, vI v3), (4, vI v4), (5, vI v5), (6, vI v6), (7, vI (D 108 ((8 + (5 * v6)) + 0))), (8, vI (D 108 ((8 + (5 * v6)) + 1))), (9, vI (((Int.natAbs ((D 108 ((8 + (5 * v6)) + 0)) - (D 108 ((88 + (3 * v1)) + 0))) : Nat) : Int) + ((Int.natAbs ((D 108 ((8 + (5 * v6)) + 1)) - (D 108 ((88 + (3 * v1)) + 1))) : Nat) : Int))), (10, vI (iA v5 (iX (iSl 1 v6) (-1)))), (11, vI (((Int.natAbs ((D 108 ((8 + (5 * v6)) + 0)) - (D 108 ((88 + (3 * v1)) + 0))) : Nat) : Int) + ((Int.natAbs ((D 108 ((8 + (5 * v6)) + 1)) - (D 108 ((88 + (3 * v1)) + 1))) : Nat) : Int)))]) dX10_roundOf_112 (by decide) rfl ?_
        refine go_iconst dX10_roundOf_114 ?_
        refine go_istore [1, 2, 3, 4, 5, 6, 7, 8, 9, 10, 11, 12, 0] (L' := [(0, vR E 107), (1, vI v1), (2, vI v2), (3, vI v3), (4, vI v4), (5, vI v5), (6, vI v6), (7, vI (D 108 ((8 + (5 * v6)) + 0))), (8, vI (D 108 ((8 + (5 * v6)) + 1))), (9, vI (((Int.natAbs ((D 108 ((8 + (5 * v6)) + 0)) - (D 108 ((88 + (3 * v1)) + 0))) : Nat) : Int) + ((Int.natAbs ((D 108 ((8 + (5 * v6)) + 1)) - (D 108 ((88 + (3 * v1)) + 1))) : Nat) : Int))), (10, vI (iA v5 (iX (iSl 1 v6) (-1)))), (11, vI (((Int.natAbs ((D 108 ((8 + (5 * v6)) + 0)) - (D 108 ((88 + (3 * v1)) + 0))) : Nat) : Int) + ((Int.natAbs ((D 108 ((8 + (5 * v6)) + 1)) - (D 108 ((88 + (3 * v1)) + 1))) : Nat) : Int))), (12, vI 0)]) dX10_roundOf_115 (by decide) rfl ?_
        exact h
    · have h := h.2 c5
      refine go_goto 215 dX10_roundOf_47 (by decide) ?_
      refine go_iinc 6 [1, 2, 3, 4, 5, 6, 0] (L' := [(0, vR E 107), (1, vI v1), (2, vI v2), (3, vI v3), (4, vI v4), (5, vI v5), (6, vI (v6 + 1))]) dX10_roundOf_215 (by decide) rfl rfl ?_
      refine go_goto 31 dX10_roundOf_218 (by decide) ?_
      exact h
theorem s_X10_roundOf_117 {l : Launch} {E : Ev} {Q : Int → Sh → Dm → Prop} {G : Sh} {D : Dm} (hL : Lay G) {v1 v2 v3 v4 v5 v6 v7 v8 v9 v10 v11 v12 : Int}  (h : ((-2147483648 ≤ v12 ∧ v12 < 2147483648) ∧ (-2147483648 ≤ v3 ∧ v3 < 2147483648)) ∧ ((v3 ≤ v12 → ((0 ≤ ((10 * v5) + v6) ∧ ((10 * v5) + v6) < 10240) ∧ (-2147483648 ≤ v11 ∧ v11 < 2147483648) ∧ (-2147483648 ≤ v5 ∧ v5 < 2147483648) ∧ (-2147483648 ≤ v2 ∧ v2 < 2147483648)) ∧ ((v5 ≠ v2 → KX10_roundOf l E Q 31 [(0, vR E 107), (1, vI v1), (2, vI v2), (3, vI v3), (4, vI v4), (5, vI v5), (6, vI (v6 + 1))] G (upd2 D 116 ((10 * v5) + v6) v11)) ∧ (v5 = v2 → ((-2147483648 ≤ v4 ∧ v4 < 2147483648) ∧ (-2147483648 ≤ (v11 + v9) ∧ (v11 + v9) < 2147483648)) ∧ KX10_roundOf l E Q 31 [(0, vR E 107), (1, vI v1), (2, vI v2), (3, vI v3), (4, vI (min v4 (v11 + v9))), (5, vI v5), (6, vI (v6 + 1))] G (upd2 D 116 ((10 * v5) + v6) v11)))) ∧ (v12 < v3 → (((iA (iSr v10 v12) 1) ≠ 1 → KX10_roundOf l E Q 117 [(0, vR E 107), (1, vI v1), (2, vI v2), (3, vI v3), (4, vI v4), (5, vI v5), (6, vI v6), (7, vI v7), (8, vI v8), (9, vI v9), (10, vI v10), (11, vI v11), (12, vI (v12 + 1))] G D) ∧ ((iA (iSr v10 v12) 1) = 1 → ((0 ≤ ((10 * v10) + v12) ∧ ((10 * v10) + v12) < 10240) ∧ (0 ≤ ((8 + (5 * v12)) + 0) ∧ ((8 + (5 * v12)) + 0) < 500) ∧ (0 ≤ ((8 + (5 * v12)) + 1) ∧ ((8 + (5 * v12)) + 1) < 500) ∧ (-2147483648 < (v7 - (D 108 ((8 + (5 * v12)) + 0))) ∧ (v7 - (D 108 ((8 + (5 * v12)) + 0))) < 2147483648) ∧ (-2147483648 < (v8 - (D 108 ((8 + (5 * v12)) + 1))) ∧ (v8 - (D 108 ((8 + (5 * v12)) + 1))) < 2147483648) ∧ (-2147483648 ≤ v11 ∧ v11 < 2147483648) ∧ (-2147483648 ≤ ((D 116 ((10 * v10) + v12)) + (((Int.natAbs (v7 - (D 108 ((8 + (5 * v12)) + 0))) : Nat) : Int) + ((Int.natAbs (v8 - (D 108 ((8 + (5 * v12)) + 1))) : Nat) : Int))) ∧ ((D 116 ((10 * v10) + v12)) + (((Int.natAbs (v7 - (D 108 ((8 + (5 * v12)) + 0))) : Nat) : Int) + ((Int.natAbs (v8 - (D 108 ((8 + (5 * v12)) + 1))) : Nat) : Int))) < 2147483648)) ∧ KX10_roundOf l E Q 117 [(0, vR E 107), (1, vI v1), (2, vI v2), (3, vI v3), (4, vI v4), (5, vI v5), (6, vI v6), (7, vI v7), (8, vI v8), (9, vI v9), (10, vI v10), (11, vI (min v11 ((D 116 ((10 * v10) + v12)) + (((Int.natAbs (v7 - (D 108 ((8 + (5 * v12)) + 0))) : Nat) : Int) + ((Int.natAbs (v8 - (D 108 ((8 + (5 * v12)) + 1))) : Nat) : Int))))), (12, vI (v12 + 1))] G D))))) : KX10_roundOf l E Q 117 [(0, vR E 107), (1, vI v1), (2, vI v2), (3, vI v3), (4, vI v4), (5, vI v5), (6, vI v6), (7, vI v7), (8, vI v8), (9, vI v9), (10, vI v10), (11, vI v11), (12, vI v12)] G D := by
  obtain ⟨s1, h⟩ := h
  refine go_iload 12 dX10_roundOf_117 rfl ?_
  refine go_iload_n 3 dX10_roundOf_119 rfl rfl ?_
  refine go_icmp_ge 182 dX10_roundOf_120 (by decide) s1.1 s1.2 (fun c2 => ?_) (fun c2 => ?_)
  · have h := h.1 c2
    obtain ⟨s3, h⟩ := h
    refine go_aload_n 0 dX10_roundOf_182 rfl rfl ?_
    refine go_getR 21 f_X10_47 rfl (hL.1 107 _ rfl) (hL.2.1 107 21 _ rfl (by decide)) dX10_roundOf_183 ?_
    refine go_bipush dX10_roundOf_186 (by decide) ?_
    refine go_iload 5 dX10_roundOf_188 rfl ?_
    refine go_imul dX10_roundOf_190 ?_
    refine go_iload 6 dX10_roundOf_191 rfl ?_
    refine go_iadd dX10_roundOf_193 ?_
    refine go_iload 11 dX10_roundOf_194 rfl ?_
    refine go_iastore (hL.1 116 _ rfl) (b := 10240) rfl (by decide) s3.1 s3.2.1 dX10_roundOf_196 ?_
    refine go_iload 5 dX10_roundOf_197 rfl ?_
    refine go_iload_n 2 dX10_roundOf_199 rfl rfl ?_
    refine go_icmp_ne 215 dX10_roundOf_200 (by decide) s3.2.2.1 s3.2.2.2 (fun c4 => ?_) (fun c4 => ?_)
    · have h := h.1 c4
      refine go_iinc 6 [1, 2, 3, 4, 5, 6, 0, 7, 8, 9, 10, 11, 12] (L' := [(0, vR E 107), (1, vI v1), (2, vI v2), (3, vI v3), (4, vI v4), (5, vI v5), (6, vI (v6 + 1)), (7, vI v7), (8, vI v8), (9, vI v9), (10, vI v10), (11, vI v11), (12, vI v12)]) dX10_roundOf_215 (by decide) rfl rfl ?_
      refine go_goto 31 dX10_roundOf_218 (by decide) ?_
      refine go_sub [0, 1, 2, 3, 4, 5, 6] (L' := [(0, vR E 107), (1, vI v1), (2, vI v2), (3, vI v3), (4, vI v4), (5, vI v5), (6, vI (v6 + 1))]) rfl ?_
      exact h
    · have h := h.2 c4
      obtain ⟨s6, h⟩ := h
      refine go_iload 4 dX10_roundOf_203 rfl ?_
      refine go_iload 11 dX10_roundOf_205 rfl ?_
      refine go_iload 9 dX10_roundOf_207 rfl ?_
      refine go_iadd dX10_roundOf_209 ?_
      refine go_mmin ma_X10_137 s6.1 s6.2 ⟨by decide, Nat.le_of_ble_eq_true rfl⟩ ⟨Nat.le_refl _, Nat.le_refl _⟩ dX10_roundOf_210 ?_
      refine go_istore [1, 2, 3, 4, 0, 5, 6, 7, 8, 9, 10, 11, 12] (L' := [(0, vR E 107), (1, vI v1), (2, vI v2), (3, vI v3), (4, vI (min v4 (v11 + v9))), (5, vI v5), (6, vI v6), (7, vI v7), (8, vI v8), (9, vI v9), (10, vI v10), (11, vI v11), (12, vI v12)]) dX10_roundOf_213 (by decide) rfl ?_
      refine go_iinc 6 [1, 2, 3, 4, 5, 6, 0, 7, 8, 9, 10, 11, 12] (L' := [(0, vR E 107), (1, vI v1), (2, vI v2), (3, vI v3), (4, vI (min v4 (v11 + v9))), (5, vI v5), (6, vI (v6 + 1)), (7, vI v7), (8, vI v8), (9, vI v9), (10, vI v10), (11, vI v11), (12, vI v12)]) dX10_roundOf_215 (by decide) rfl rfl ?_
      refine go_goto 31 dX10_roundOf_218 (by decide) ?_
      refine go_sub [0, 1, 2, 3, 4, 5, 6] (L' := [(0, vR E 107), (1, vI v1), (2, vI v2), (3, vI v3), (4, vI (min v4 (v11 + v9))), (5, vI v5), (6, vI (v6 + 1))]) rfl ?_
      exact h
  · have h := h.2 c2
    refine go_iload 10 dX10_roundOf_123 rfl ?_
    refine go_iload 12 dX10_roundOf_125 rfl ?_
    refine go_ishr dX10_roundOf_127 ?_
    refine go_iconst dX10_roundOf_128 ?_
    refine go_iand dX10_roundOf_129 ?_
    refine go_iconst dX10_roundOf_130 ?_
    refine go_icmp_ne 176 dX10_roundOf_131 (by decide) (r32 _) (by decide) (fun c8 => ?_) (fun c8 => ?_)
    · have h := h.1 c8
      refine go_iinc 12 [1, 2, 3, 4, 5, 6, 7, 8, 9, 10, 11, 12, 0] (L' := [(0, vR E 107), (1, vI v1), (2, vI v2), (3, vI v3), (4, vI v4), (5, vI v5), (6, vI v6), (7, vI v7), (8, vI v8), (9, vI v9), (10, vI v10), (11, vI v11), (12, vI (v12 + 1))]) dX10_roundOf_176 (by decide) rfl rfl ?_
      refine go_goto 117 dX10_roundOf_179 (by decide) ?_
      exact h
    · have h := h.2 c8
      obtain ⟨s10, h⟩ := h
      refine go_iload 11 dX10_roundOf_134 rfl ?_
      refine go_aload_n 0 dX10_roundOf_136 rfl rfl ?_
      refine go_getR 21 f_X10_47 rfl (hL.1 107 _ rfl) (hL.2.1 107 21 _ rfl (by decide)) dX10_roundOf_137 ?_
      refine go_bipush dX10_roundOf_140 (by decide) ?_
      refine go_iload 10 dX10_roundOf_142 rfl ?_
      refine go_imul dX10_roundOf_144 ?_
      refine go_iload 12 dX10_roundOf_145 rfl ?_
      refine go_iadd dX10_roundOf_147 ?_
      refine go_iaload (hL.1 116 _ rfl) (b := 10240) rfl (by decide) s10.1 dX10_roundOf_148 ?_
      refine go_iload 7 dX10_roundOf_149 rfl ?_
      refine go_iload 8 dX10_roundOf_151 rfl ?_
      refine go_aload_n 0 dX10_roundOf_153 rfl rfl ?_
      refine go_iload 12 dX10_roundOf_154 rfl ?_
      refine go_iconst dX10_roundOf_156 ?_
      refine go_vIp (M := MX10_ofStrip) [vI v12, vI 0] [vI v8, vI v7, vI (D 116 ((10 * v10) + v12)), vI v11] mv_X10_210 (hL.1 107 _ rfl) rfl (by decide) ⟨Nat.le_of_ble_eq_true rfl, Nat.le_of_ble_eq_true rfl⟩ ⟨Nat.le_refl _, Nat.le_refl _⟩ rfl rfl (Nat.le_of_ble_eq_true rfl) dX10_roundOf_157 (p_X10_ofStrip hL s10.2.1) ?_
      refine go_aload_n 0 dX10_roundOf_160 rfl rfl ?_
      refine go_iload 12 dX10_roundOf_161 rfl ?_
      refine go_iconst dX10_roundOf_163 ?_
      refine go_vIp (M := MX10_ofStrip) [vI v12, vI 1] [vI (D 108 ((8 + (5 * v12)) + 0)), vI v8, vI v7, vI (D 116 ((10 * v10) + v12)), vI v11] mv_X10_210 (hL.1 107 _ rfl) rfl (by decide) ⟨Nat.le_of_ble_eq_true rfl, Nat.le_of_ble_eq_true rfl⟩ ⟨Nat.le_refl _, Nat.le_refl _⟩ rfl rfl (Nat.le_of_ble_eq_true rfl) dX10_roundOf_164 (p_X10_ofStrip hL s10.2.2.1) ?_
      refine go_sIp (M := MX10_apart) [vI v7, vI v8, vI (D 108 ((8 + (5 * v12)) + 0)), vI (D 108 ((8 + (5 * v12)) + 1))] [vI (D 116 ((10 * v10) + v12)), vI v11] ms_X10_241 ⟨Nat.le_of_ble_eq_true rfl, Nat.le_of_ble_eq_true rfl⟩ ⟨Nat.le_refl _, Nat.le_refl _⟩ rfl rfl (Nat.le_of_ble_eq_true rfl) dX10_roundOf_167 (p_X10_apart hL s10.2.2.2.1 s10.2.2.2.2.1) ?_
      refine go_iadd dX10_roundOf_170 ?_
      refine go_mmin ma_X10_137 s10.2.2.2.2.2.1 s10.2.2.2.2.2.2 ⟨by decide, Nat.le_of_ble_eq_true rfl⟩ ⟨Nat.le_refl _, Nat.le_refl _⟩ dX10_roundOf_171 ?_
      refine go_istore [1, 2, 3, 4, 5, 6, 7, 8, 9, 10, 11, 0, 12] (L' := [(0, vR E 107), (1, vI v1), (2, vI v2), (3, vI v3), (4, vI v4), (5, vI v5), (6, vI v6), (7, vI v7), (8, vI v8), (9, vI v9), (10, vI v10), (11, vI (min v11 ((D 116 ((10 * v10) + v12)) + (((Int.natAbs (v7 - (D 108 ((8 + (5 * v12)) + 0))) : Nat) : Int) + ((Int.natAbs (v8 - (D 108 ((8 + (5 * v12)) + 1))) : Nat) : Int))))), (12, vI v12)]) dX10_roundOf_174 (by decide) rfl ?_
      refine go_iinc 12 [1, 2, 3, 4, 5, 6, 7, 8, 9, 10, 11, 12, 0] (L' := [(0, vR E 107), (1, vI v1), (2, vI v2), (3, vI v3), (4, vI v4), (5, vI v5), (6, vI v6), (7, vI v7), (8, vI v8), (9, vI v9), (10, vI v10), (11, vI (min v11 ((D 116 ((10 * v10) + v12)) + (((Int.natAbs (v7 - (D 108 ((8 + (5 * v12)) + 0))) : Nat) : Int) + ((Int.natAbs (v8 - (D 108 ((8 + (5 * v12)) + 1))) : Nat) : Int))))), (12, vI (v12 + 1))]) dX10_roundOf_176 (by decide) rfl rfl ?_
      refine go_goto 117 dX10_roundOf_179 (by decide) ?_
      exact h
theorem s_X10_netOf {l : Launch} {E : Ev} {Q : Int → Sh → Dm → Prop} {G : Sh} {D : Dm} (hL : Lay G) {v1 v2 : Int}  (h : KX10_netOf l E Q 9 [(0, vR E 107), (1, vI v1), (2, vI v2), (3, vI (-(D 107 22))), (4, vI 0)] G D) : Ct l E MX10_netOf 0 0 0 [vR E 107, vI v1, vI v2] G D Q := by
  refine Ct.of (by decide) (Nat.le_of_ble_eq_true rfl) ?_
  show KX10_netOf l E Q 0 [(0, vR E 107), (1, vI v1), (2, vI v2)] G D
  refine go_aload_n 0 dX10_netOf_0 rfl rfl ?_
  refine go_getI 22 (i := 22) f_X10_245 rfl (hL.1 107 _ rfl) dX10_netOf_1 ?_
  refine go_ineg dX10_netOf_4 ?_
  refine go_istore_n [1, 2, 3, 0] (L' := [(0, vR E 107), (1, vI v1), (2, vI v2), (3, vI (-(D 107 22)))]) dX10_netOf_5 rfl (by decide) rfl ?_
  refine go_iconst dX10_netOf_6 ?_
  refine go_istore [1, 2, 3, 4, 0] (L' := [(0, vR E 107), (1, vI v1), (2, vI v2), (3, vI (-(D 107 22))), (4, vI 0)]) dX10_netOf_7 (by decide) rfl ?_
  exact h
theorem s_X10_netOf_9 {l : Launch} {E : Ev} {Q : Int → Sh → Dm → Prop} {G : Sh} {D : Dm} (hL : Lay G) {v1 v2 v3 v4 : Int}  (h : ((-2147483648 ≤ v4 ∧ v4 < 2147483648)) ∧ (((D 108 0) ≤ v4 → ((-2147483648 ≤ v3 ∧ v3 < 2147483648)) ∧ Q (max 0 v3) G D) ∧ (v4 < (D 108 0) → (((iA (iSr v1 v4) 1) ≠ 1 → KX10_netOf l E Q 9 [(0, vR E 107), (1, vI v1), (2, vI v2), (3, vI (v3 + 0)), (4, vI (v4 + 1))] G D) ∧ ((iA (iSr v1 v4) 1) = 1 → C0 l E MX10_leftOf 0 [vR E 107, vI v4, vI v2] G D (fun r9 D9 => KX10_netOf l E Q 9 [(0, vR E 107), (1, vI v1), (2, vI v2), (3, vI (v3 + r9)), (4, vI (v4 + 1))] G D9)))))) : KX10_netOf l E Q 9 [(0, vR E 107), (1, vI v1), (2, vI v2), (3, vI v3), (4, vI v4)] G D := by
  obtain ⟨s1, h⟩ := h
  refine go_iload 4 dX10_netOf_9 rfl ?_
  refine go_aload_n 0 dX10_netOf_11 rfl rfl ?_
  refine go_getR 0 f_X10_7 rfl (hL.1 107 _ rfl) (hL.2.1 107 0 _ rfl (by decide)) dX10_netOf_12 ?_
  refine go_iconst dX10_netOf_15 ?_
  refine go_iaload (hL.1 108 _ rfl) (b := 500) rfl (by decide) (by decide) dX10_netOf_16 ?_
  refine go_rngI (c := 108) (i := 0) (hL.1 108 _ rfl) rfl (fun (q2 : -2147483648 ≤ (D 108 0) ∧ (D 108 0) < 2147483648) => ?_)
  refine go_icmp_ge 50 dX10_netOf_17 (by decide) s1 q2 (fun c3 => ?_) (fun c3 => ?_)
  · have h := h.1 c3
    obtain ⟨s4, h⟩ := h
    refine go_iconst dX10_netOf_50 ?_
    refine go_iload_n 3 dX10_netOf_51 rfl rfl ?_
    refine go_mmax ma_X10_251 (by decide) s4 ⟨by decide, Nat.le_of_ble_eq_true rfl⟩ ⟨Nat.le_refl _, Nat.le_refl _⟩ dX10_netOf_52 ?_
    exact go_ireturn (Nat.le_refl _) (Nat.le_refl _) rfl dX10_netOf_55 h
  · have h := h.2 c3
    refine go_iload_n 3 dX10_netOf_20 rfl rfl ?_
    refine go_iload_n 1 dX10_netOf_21 rfl rfl ?_
    refine go_iload 4 dX10_netOf_22 rfl ?_
    refine go_ishr dX10_netOf_24 ?_
    refine go_iconst dX10_netOf_25 ?_
    refine go_iand dX10_netOf_26 ?_
    refine go_iconst dX10_netOf_27 ?_
    refine go_icmp_ne 41 dX10_netOf_28 (by decide) (r32 _) (by decide) (fun c6 => ?_) (fun c6 => ?_)
    · have h := h.1 c6
      refine go_iconst dX10_netOf_41 ?_
      refine go_iadd dX10_netOf_42 ?_
      refine go_istore_n [1, 2, 3, 0, 4] (L' := [(0, vR E 107), (1, vI v1), (2, vI v2), (3, vI (v3 + 0)), (4, vI v4)]) dX10_netOf_43 rfl (by decide) rfl ?_
      refine go_iinc 4 [1, 2, 3, 4, 0] (L' := [(0, vR E 107), (1, vI v1), (2, vI v2), (3, vI (v3 + 0)), (4, vI (v4 + 1))]) dX10_netOf_44 (by decide) rfl rfl ?_
      refine go_goto 9 dX10_netOf_47 (by decide) ?_
      exact h
    · have h := h.2 c6
      refine go_aload_n 0 dX10_netOf_31 rfl rfl ?_
      refine go_iload 4 dX10_netOf_32 rfl ?_
      refine go_iload_n 2 dX10_netOf_34 rfl rfl ?_
      refine go_vI (M := MX10_leftOf) [vI v4, vI v2] [vI v3] mv_X10_248 (hL.1 107 _ rfl) rfl (by decide) ⟨Nat.le_of_ble_eq_true rfl, Nat.le_of_ble_eq_true rfl⟩ ⟨Nat.le_refl _, Nat.le_refl _⟩ rfl rfl (Nat.le_of_ble_eq_true rfl) dX10_netOf_35 h (fun r9 D9 h => ?_)
      refine go_goto 42 dX10_netOf_38 (by decide) ?_
      refine go_iadd dX10_netOf_42 ?_
      refine go_istore_n [1, 2, 3, 0, 4] (L' := [(0, vR E 107), (1, vI v1), (2, vI v2), (3, vI (v3 + r9)), (4, vI v4)]) dX10_netOf_43 rfl (by decide) rfl ?_
      refine go_iinc 4 [1, 2, 3, 4, 0] (L' := [(0, vR E 107), (1, vI v1), (2, vI v2), (3, vI (v3 + r9)), (4, vI (v4 + 1))]) dX10_netOf_44 (by decide) rfl rfl ?_
      refine go_goto 9 dX10_netOf_47 (by decide) ?_
      exact h
theorem s_X10_goesRound {l : Launch} {E : Ev} {Q : Int → Sh → Dm → Prop} {G : Sh} {D : Dm} (hL : Lay G) {v1 v2 : Int}  (h : C0 l E MX10_roundOf 0 [vR E 107, vI v1, vI v2] G D (fun r2 D2 => ((-2147483648 ≤ r2 ∧ r2 < 2147483648) ∧ (0 < (D2 108 3) ∧ (D2 108 3) < 2147483648) ∧ (-2147483648 ≤ (Int.tdiv r2 (D2 108 3)) ∧ (Int.tdiv r2 (D2 108 3)) < 2147483648)) ∧ Q 0 G (upd2 D2 107 22 (Int.tdiv r2 (D2 108 3))))) : Ct l E MX10_goesRound 2 0 0 [vR E 107, vI v1, vI v2] G D Q := by
  refine Ct.of (by decide) (Nat.le_of_ble_eq_true rfl) ?_
  show KX10_goesRound l E Q 0 [(0, vR E 107), (1, vI v1), (2, vI v2)] G D
  refine go_aload_n 0 dX10_goesRound_0 rfl rfl ?_
  refine go_aload_n 0 dX10_goesRound_1 rfl rfl ?_
  refine go_iload_n 1 dX10_goesRound_2 rfl rfl ?_
  refine go_iload_n 2 dX10_goesRound_3 rfl rfl ?_
  refine go_vI (M := MX10_roundOf) [vI v1, vI v2] [vR E 107] mv_X10_254 (hL.1 107 _ rfl) rfl (by decide) ⟨Nat.le_of_ble_eq_true rfl, Nat.le_of_ble_eq_true rfl⟩ ⟨Nat.le_refl _, Nat.le_refl _⟩ rfl rfl (Nat.le_of_ble_eq_true rfl) dX10_goesRound_4 h (fun r2 D2 h => ?_)
  obtain ⟨s3, h⟩ := h
  refine go_aload_n 0 dX10_goesRound_7 rfl rfl ?_
  refine go_getR 0 f_X10_7 rfl (hL.1 107 _ rfl) (hL.2.1 107 0 _ rfl (by decide)) dX10_goesRound_8 ?_
  refine go_iconst dX10_goesRound_11 ?_
  refine go_iaload (hL.1 108 _ rfl) (b := 500) rfl (by decide) (by decide) dX10_goesRound_12 ?_
  refine go_idiv ⟨s3.1, s3.2.1⟩ dX10_goesRound_13 ?_
  refine go_putI 22 (i := 22) s3.2.2 f_X10_245 rfl (hL.1 107 _ rfl) dX10_goesRound_14 ?_
  exact go_return (Nat.le_refl _) (Nat.le_refl _) rfl dX10_goesRound_17 h
theorem s_X10_shortOf {l : Launch} {E : Ev} {Q : Int → Sh → Dm → Prop} {G : Sh} {D : Dm} (hL : Lay G) {v1 v2 : Int}  (h : ((0 ≤ ((88 + (3 * v1)) + 2) ∧ ((88 + (3 * v1)) + 2) < 500) ∧ (-2147483648 ≤ ((D 108 ((88 + (3 * v1)) + 2)) - v2) ∧ ((D 108 ((88 + (3 * v1)) + 2)) - v2) < 2147483648)) ∧ Q (max 0 ((D 108 ((88 + (3 * v1)) + 2)) - v2)) G D) : Ct l E MX10_shortOf 0 0 0 [vR E 107, vI v1, vI v2] G D Q := by
  refine Ct.of (by decide) (Nat.le_of_ble_eq_true rfl) ?_
  show KX10_shortOf l E Q 0 [(0, vR E 107), (1, vI v1), (2, vI v2)] G D
  obtain ⟨s1, h⟩ := h
  refine go_iconst dX10_shortOf_0 ?_
  refine go_aload_n 0 dX10_shortOf_1 rfl rfl ?_
  refine go_iload_n 1 dX10_shortOf_2 rfl rfl ?_
  refine go_iconst dX10_shortOf_3 ?_
  refine go_vIp (M := MX10_ofFamily) [vI v1, vI 2] [vI 0] mv_X10_226 (hL.1 107 _ rfl) rfl (by decide) ⟨Nat.le_of_ble_eq_true rfl, Nat.le_of_ble_eq_true rfl⟩ ⟨Nat.le_refl _, Nat.le_refl _⟩ rfl rfl (Nat.le_of_ble_eq_true rfl) dX10_shortOf_4 (p_X10_ofFamily hL s1.1) ?_
  refine go_iload_n 2 dX10_shortOf_7 rfl rfl ?_
  refine go_isub dX10_shortOf_8 ?_
  refine go_mmax ma_X10_251 (by decide) s1.2 ⟨by decide, Nat.le_of_ble_eq_true rfl⟩ ⟨Nat.le_refl _, Nat.le_refl _⟩ dX10_shortOf_9 ?_
  exact go_ireturn (Nat.le_refl _) (Nat.le_refl _) rfl dX10_shortOf_12 h
theorem p_X10_shortOf {l : Launch} {E : Ev} {G : Sh} {D : Dm} (hL : Lay G) {v1 v2 : Int}  (q0 : 0 ≤ ((88 + (3 * v1)) + 2) ∧ ((88 + (3 * v1)) + 2) < 500) (q1 : -2147483648 ≤ ((D 108 ((88 + (3 * v1)) + 2)) - v2) ∧ ((D 108 ((88 + (3 * v1)) + 2)) - v2) < 2147483648) : C0 l E MX10_shortOf 0 [vR E 107, vI v1, vI v2] G D (fun r D' => r = (max 0 ((D 108 ((88 + (3 * v1)) + 2)) - v2)) ∧ D' = D) := s_X10_shortOf hL ⟨⟨q0, q1⟩, ⟨rfl, rfl, rfl⟩⟩
theorem s_X10_worthOf {l : Launch} {E : Ev} {Q : Int → Sh → Dm → Prop} {G : Sh} {D : Dm} (hL : Lay G) {v1 v2 : Int}  (h : C0 l E MX10_goesRound 2 [vR E 107, vI v1, vI v2] G D (fun r2 D2 => KX10_worthOf l E Q 11 [(0, vR E 107), (1, vI v1), (2, vI v2), (3, vJ 0), (5, vI 0)] G D2)) : Ct l E MX10_worthOf 1 0 0 [vR E 107, vI v1, vI v2] G D Q := by
  refine Ct.of (by decide) (Nat.le_of_ble_eq_true rfl) ?_
  show KX10_worthOf l E Q 0 [(0, vR E 107), (1, vI v1), (2, vI v2)] G D
  refine go_aload_n 0 dX10_worthOf_0 rfl rfl ?_
  refine go_iload_n 1 dX10_worthOf_1 rfl rfl ?_
  refine go_iload_n 2 dX10_worthOf_2 rfl rfl ?_
  refine go_vV (M := MX10_goesRound) [vI v1, vI v2] [] mv_X10_257 (hL.1 107 _ rfl) rfl (by decide) ⟨Nat.le_of_ble_eq_true rfl, Nat.le_of_ble_eq_true rfl⟩ ⟨Nat.le_refl _, Nat.le_refl _⟩ rfl rfl (Nat.le_of_ble_eq_true rfl) dX10_worthOf_3 h (fun r2 D2 h => ?_)
  refine go_lconst (x := 0) dX10_worthOf_6 rfl ?_
  refine go_lstore_n [1, 2, 3, 0] (L' := [(0, vR E 107), (1, vI v1), (2, vI v2), (3, vJ 0)]) dX10_worthOf_7 rfl (by decide) rfl ?_
  refine go_iconst dX10_worthOf_8 ?_
  refine go_istore [1, 2, 3, 4, 0] (L' := [(0, vR E 107), (1, vI v1), (2, vI v2), (3, vJ 0), (5, vI 0)]) dX10_worthOf_9 (by decide) rfl ?_
  exact h
theorem s_X10_worthOf_11 {l : Launch} {E : Ev} {Q : Int → Sh → Dm → Prop} {G : Sh} {D : Dm} (hL : Lay G) {v1 v2 v3 v5 : Int}  (h : ((-2147483648 ≤ v5 ∧ v5 < 2147483648)) ∧ (((iSl 1 (D 108 1)) ≤ v5 → Q v3 G D) ∧ (v5 < (iSl 1 (D 108 1)) → C0 l E MX10_weightOf 1 [vR E 107, vI v5] G D (fun r6 D6 => ((-9223372036854775808 ≤ r6 ∧ r6 < 9223372036854775808)) ∧ ((r6 ≠ 0 → C0 l E MX10_netOf 0 [vR E 107, vI v2, vI v5] G D6 (fun r10 D10 => ((0 ≤ ((88 + (3 * v1)) + 2) ∧ ((88 + (3 * v1)) + 2) < 500) ∧ (-2147483648 ≤ ((D10 108 ((88 + (3 * v1)) + 2)) - r10) ∧ ((D10 108 ((88 + (3 * v1)) + 2)) - r10) < 2147483648) ∧ (-2147483648 ≤ (r10 - ((D10 108 4) * (max 0 ((D10 108 ((88 + (3 * v1)) + 2)) - r10)))) ∧ (r10 - ((D10 108 4) * (max 0 ((D10 108 ((88 + (3 * v1)) + 2)) - r10)))) < 2147483648)) ∧ KX10_worthOf l E Q 11 [(0, vR E 107), (1, vI v1), (2, vI v2), (3, vJ (v3 + (r6 * (r10 - ((D10 108 4) * (max 0 ((D10 108 ((88 + (3 * v1)) + 2)) - r10))))))), (5, vI (v5 + 1))] G D10)) ∧ (r6 = 0 → KX10_worthOf l E Q 11 [(0, vR E 107), (1, vI v1), (2, vI v2), (3, vJ v3), (5, vI (v5 + 1))] G D6)))))) : KX10_worthOf l E Q 11 [(0, vR E 107), (1, vI v1), (2, vI v2), (3, vJ v3), (5, vI v5)] G D := by
  obtain ⟨s1, h⟩ := h
  refine go_iload 4 dX10_worthOf_11 rfl ?_
  refine go_aload_n 0 dX10_worthOf_13 rfl rfl ?_
  refine go_vIp (M := MX10_lots) [] [vI v5] mv_X10_260 (hL.1 107 _ rfl) rfl (by decide) ⟨Nat.le_of_ble_eq_true rfl, Nat.le_of_ble_eq_true rfl⟩ ⟨Nat.le_refl _, Nat.le_refl _⟩ rfl rfl (Nat.le_of_ble_eq_true rfl) dX10_worthOf_14 (p_X10_lots hL) ?_
  refine go_icmp_ge 77 dX10_worthOf_17 (by decide) s1 (r32 _) (fun c3 => ?_) (fun c3 => ?_)
  · have h := h.1 c3
    refine go_lload_n 3 dX10_worthOf_77 rfl rfl ?_
    exact go_lreturn (Nat.le_refl _) (Nat.le_refl _) rfl dX10_worthOf_78 h
  · have h := h.2 c3
    refine go_aload_n 0 dX10_worthOf_20 rfl rfl ?_
    refine go_iload 4 dX10_worthOf_21 rfl ?_
    refine go_vJ (M := MX10_weightOf) [vI v5] [] mv_X10_263 (hL.1 107 _ rfl) rfl (by decide) ⟨Nat.le_of_ble_eq_true rfl, Nat.le_of_ble_eq_true rfl⟩ ⟨Nat.le_refl _, Nat.le_refl _⟩ rfl rfl (Nat.le_of_ble_eq_true rfl) dX10_worthOf_23 h (fun r6 D6 h => ?_)
    obtain ⟨s7, h⟩ := h
    refine go_lstore [1, 2, 3, 4, 5, 0] (L' := [(0, vR E 107), (1, vI v1), (2, vI v2), (3, vJ v3), (5, vI v5), (6, vJ r6)]) dX10_worthOf_26 (by decide) rfl ?_
    refine go_lload 5 dX10_worthOf_28 rfl ?_
    refine go_lconst (x := 0) dX10_worthOf_30 rfl ?_
    refine go_lcmp_ne 38 dX10_worthOf_31 dX10_worthOf_32 (by decide) s7 (by decide) (fun c8 => ?_) (fun c8 => ?_)
    · have h := h.1 c8
      refine go_aload_n 0 dX10_worthOf_38 rfl rfl ?_
      refine go_iload_n 2 dX10_worthOf_39 rfl rfl ?_
      refine go_iload 4 dX10_worthOf_40 rfl ?_
      refine go_vI (M := MX10_netOf) [vI v2, vI v5] [] mv_X10_267 (hL.1 107 _ rfl) rfl (by decide) ⟨Nat.le_of_ble_eq_true rfl, Nat.le_of_ble_eq_true rfl⟩ ⟨Nat.le_refl _, Nat.le_refl _⟩ rfl rfl (Nat.le_of_ble_eq_true rfl) dX10_worthOf_42 h (fun r10 D10 h => ?_)
      obtain ⟨s11, h⟩ := h
      refine go_istore [1, 2, 3, 4, 5, 6, 0] (L' := [(0, vR E 107), (1, vI v1), (2, vI v2), (3, vJ v3), (5, vI v5), (6, vJ r6), (8, vI r10)]) dX10_worthOf_45 (by decide) rfl ?_
      refine go_lload_n 3 dX10_worthOf_47 rfl rfl ?_
      refine go_lload 5 dX10_worthOf_48 rfl ?_
      refine go_iload 6 dX10_worthOf_50 rfl ?_
      refine go_aload_n 0 dX10_worthOf_52 rfl rfl ?_
      refine go_getR 0 f_X10_7 rfl (hL.1 107 _ rfl) (hL.2.1 107 0 _ rfl (by decide)) dX10_worthOf_53 ?_
      refine go_iconst dX10_worthOf_56 ?_
      refine go_iaload (hL.1 108 _ rfl) (b := 500) rfl (by decide) (by decide) dX10_worthOf_57 ?_
      refine go_aload_n 0 dX10_worthOf_58 rfl rfl ?_
      refine go_iload_n 1 dX10_worthOf_59 rfl rfl ?_
      refine go_iload 6 dX10_worthOf_60 rfl ?_
      refine go_vIp (M := MX10_shortOf) [vI v1, vI r10] [vI (D10 108 4), vI r10, vJ r6, vJ v3] mv_X10_270 (hL.1 107 _ rfl) rfl (by decide) ⟨Nat.le_of_ble_eq_true rfl, Nat.le_of_ble_eq_true rfl⟩ ⟨Nat.le_refl _, Nat.le_refl _⟩ rfl rfl (Nat.le_of_ble_eq_true rfl) dX10_worthOf_62 (p_X10_shortOf hL s11.1 s11.2.1) ?_
      refine go_imul dX10_worthOf_65 ?_
      refine go_isub dX10_worthOf_66 ?_
      refine go_i2l s11.2.2 dX10_worthOf_67 ?_
      refine go_lmul dX10_worthOf_68 ?_
      refine go_ladd dX10_worthOf_69 ?_
      refine go_lstore_n [1, 2, 3, 0, 4, 5, 6] (L' := [(0, vR E 107), (1, vI v1), (2, vI v2), (3, vJ (v3 + (r6 * (r10 - ((D10 108 4) * (max 0 ((D10 108 ((88 + (3 * v1)) + 2)) - r10))))))), (5, vI v5), (6, vJ r6), (8, vI r10)]) dX10_worthOf_70 rfl (by decide) rfl ?_
      refine go_iinc 4 [1, 2, 3, 4, 0, 5, 6] (L' := [(0, vR E 107), (1, vI v1), (2, vI v2), (3, vJ (v3 + (r6 * (r10 - ((D10 108 4) * (max 0 ((D10 108 ((88 + (3 * v1)) + 2)) - r10))))))), (5, vI (v5 + 1)), (6, vJ r6), (8, vI r10)]) dX10_worthOf_71 (by decide) rfl rfl ?_
      refine go_goto 11 dX10_worthOf_74 (by decide) ?_
      refine go_sub [0, 1, 2, 3, 4] (L' := [(0, vR E 107), (1, vI v1), (2, vI v2), (3, vJ (v3 + (r6 * (r10 - ((D10 108 4) * (max 0 ((D10 108 ((88 + (3 * v1)) + 2)) - r10))))))), (5, vI (v5 + 1))]) rfl ?_
      exact h
    · have h := h.2 c8
      refine go_goto 71 dX10_worthOf_35 (by decide) ?_
      refine go_iinc 4 [1, 2, 3, 4, 0, 5] (L' := [(0, vR E 107), (1, vI v1), (2, vI v2), (3, vJ v3), (5, vI (v5 + 1)), (6, vJ r6)]) dX10_worthOf_71 (by decide) rfl rfl ?_
      refine go_goto 11 dX10_worthOf_74 (by decide) ?_
      refine go_sub [0, 1, 2, 3, 4] (L' := [(0, vR E 107), (1, vI v1), (2, vI v2), (3, vJ v3), (5, vI (v5 + 1))]) rfl ?_
      exact h
theorem s_X10_weight {l : Launch} {E : Ev} {Q : Int → Sh → Dm → Prop} {G : Sh} {D : Dm} (hL : Lay G) {v1 : Int}  (h : ((-2147483648 ≤ v1 ∧ v1 < 2147483648)) ∧ ((¬ ((0 ≤ v1) ∧ (v1 < (jSl 1 (D 108 1)))) → Q (-1) G (upd2 D 107 1 1)) ∧ (((0 ≤ v1) ∧ (v1 < (jSl 1 (D 108 1)))) → C0 l E MX10_weightOf 1 [vR E 107, vI v1] G D (fun r7 D7 => Q r7 G (upd2 D7 107 1 0))))) : Ct l E MX10_weight 1 0 0 [vR E 107, vI v1] G D Q := by
  refine Ct.of (by decide) (Nat.le_of_ble_eq_true rfl) ?_
  show KX10_weight l E Q 0 [(0, vR E 107), (1, vI v1)] G D
  obtain ⟨s1, h⟩ := h
  refine go_aload_n 0 dX10_weight_0 rfl rfl ?_
  refine go_iload_n 1 dX10_weight_1 rfl rfl ?_
  refine go_i2l s1 dX10_weight_2 ?_
  refine go_vIp (M := MX10_isLot) [vJ v1] [] mv_X10_273 (hL.1 107 _ rfl) rfl (by decide) ⟨Nat.le_of_ble_eq_true rfl, Nat.le_of_ble_eq_true rfl⟩ ⟨Nat.le_refl _, Nat.le_refl _⟩ rfl rfl (Nat.le_of_ble_eq_true rfl) dX10_weight_3 (p_X10_isLot hL (rIJ s1)) ?_
  refine go_ifb_eq 21 dX10_weight_6 (by decide) (fun c3 => ?_) (fun c3 => ?_)
  · have h := h.1 c3
    refine go_aload_n 0 dX10_weight_21 rfl rfl ?_
    refine go_iconst dX10_weight_22 ?_
    refine go_vIp (M := MX10_refuse) [vI 1] [] mv_X10_194 (hL.1 107 _ rfl) rfl (by decide) ⟨Nat.le_of_ble_eq_true rfl, Nat.le_of_ble_eq_true rfl⟩ ⟨Nat.le_refl _, Nat.le_refl _⟩ rfl rfl (Nat.le_of_ble_eq_true rfl) dX10_weight_23 (p_X10_refuse hL (by decide)) ?_
    refine go_i2l (by decide) dX10_weight_26 ?_
    exact go_lreturn (Nat.le_refl _) (Nat.le_refl _) rfl dX10_weight_27 h
  · have h := h.2 c3
    refine go_aload_n 0 dX10_weight_9 rfl rfl ?_
    refine go_aload_n 0 dX10_weight_10 rfl rfl ?_
    refine go_iload_n 1 dX10_weight_11 rfl rfl ?_
    refine go_vJ (M := MX10_weightOf) [vI v1] [vR E 107] mv_X10_263 (hL.1 107 _ rfl) rfl (by decide) ⟨Nat.le_of_ble_eq_true rfl, Nat.le_of_ble_eq_true rfl⟩ ⟨Nat.le_refl _, Nat.le_refl _⟩ rfl rfl (Nat.le_of_ble_eq_true rfl) dX10_weight_12 h (fun r7 D7 h => ?_)
    refine go_vJp (M := MX10_givesLong) [vJ r7] [] mv_X10_277 (hL.1 107 _ rfl) rfl (by decide) ⟨Nat.le_of_ble_eq_true rfl, Nat.le_of_ble_eq_true rfl⟩ ⟨Nat.le_refl _, Nat.le_refl _⟩ rfl rfl (Nat.le_of_ble_eq_true rfl) dX10_weight_15 (p_X10_givesLong hL) ?_
    refine go_goto 27 dX10_weight_18 (by decide) ?_
    exact go_lreturn (Nat.le_refl _) (Nat.le_refl _) rfl dX10_weight_27 h
theorem s_X10_left {l : Launch} {E : Ev} {Q : Int → Sh → Dm → Prop} {G : Sh} {D : Dm} (hL : Lay G) {v1 v2 : Int}  (h : ((-2147483648 ≤ v1 ∧ v1 < 2147483648)) ∧ ((¬ ((0 ≤ v1) ∧ (v1 < (D 108 0))) → Q (-1) G (upd2 D 107 1 1)) ∧ (((0 ≤ v1) ∧ (v1 < (D 108 0))) → ((-2147483648 ≤ v2 ∧ v2 < 2147483648)) ∧ ((¬ ((0 ≤ v2) ∧ (v2 < (jSl 1 (D 108 1)))) → Q (-1) G (upd2 D 107 1 1)) ∧ (((0 ≤ v2) ∧ (v2 < (jSl 1 (D 108 1)))) → C0 l E MX10_leftOf 0 [vR E 107, vI v1, vI v2] G D (fun r12 D12 => Q r12 G (upd2 D12 107 1 0))))))) : Ct l E MX10_left 0 0 0 [vR E 107, vI v1, vI v2] G D Q := by
  refine Ct.of (by decide) (Nat.le_of_ble_eq_true rfl) ?_
  show KX10_left l E Q 0 [(0, vR E 107), (1, vI v1), (2, vI v2)] G D
  obtain ⟨s1, h⟩ := h
  refine go_aload_n 0 dX10_left_0 rfl rfl ?_
  refine go_iload_n 1 dX10_left_1 rfl rfl ?_
  refine go_vIp (M := MX10_isStrip) [vI v1] [] mv_X10_213 (hL.1 107 _ rfl) rfl (by decide) ⟨Nat.le_of_ble_eq_true rfl, Nat.le_of_ble_eq_true rfl⟩ ⟨Nat.le_refl _, Nat.le_refl _⟩ rfl rfl (Nat.le_of_ble_eq_true rfl) dX10_left_2 (p_X10_isStrip hL s1) ?_
  refine go_ifb_eq 30 dX10_left_5 (by decide) (fun c3 => ?_) (fun c3 => ?_)
  · have h := h.1 c3
    refine go_aload_n 0 dX10_left_30 rfl rfl ?_
    refine go_iconst dX10_left_31 ?_
    refine go_vIp (M := MX10_refuse) [vI 1] [] mv_X10_194 (hL.1 107 _ rfl) rfl (by decide) ⟨Nat.le_of_ble_eq_true rfl, Nat.le_of_ble_eq_true rfl⟩ ⟨Nat.le_refl _, Nat.le_refl _⟩ rfl rfl (Nat.le_of_ble_eq_true rfl) dX10_left_32 (p_X10_refuse hL (by decide)) ?_
    exact go_ireturn (Nat.le_refl _) (Nat.le_refl _) rfl dX10_left_35 h
  · have h := h.2 c3
    obtain ⟨s6, h⟩ := h
    refine go_aload_n 0 dX10_left_8 rfl rfl ?_
    refine go_iload_n 2 dX10_left_9 rfl rfl ?_
    refine go_i2l s6 dX10_left_10 ?_
    refine go_vIp (M := MX10_isLot) [vJ v2] [] mv_X10_273 (hL.1 107 _ rfl) rfl (by decide) ⟨Nat.le_of_ble_eq_true rfl, Nat.le_of_ble_eq_true rfl⟩ ⟨Nat.le_refl _, Nat.le_refl _⟩ rfl rfl (Nat.le_of_ble_eq_true rfl) dX10_left_11 (p_X10_isLot hL (rIJ s6)) ?_
    refine go_ifb_eq 30 dX10_left_14 (by decide) (fun c8 => ?_) (fun c8 => ?_)
    · have h := h.1 c8
      refine go_aload_n 0 dX10_left_30 rfl rfl ?_
      refine go_iconst dX10_left_31 ?_
      refine go_vIp (M := MX10_refuse) [vI 1] [] mv_X10_194 (hL.1 107 _ rfl) rfl (by decide) ⟨Nat.le_of_ble_eq_true rfl, Nat.le_of_ble_eq_true rfl⟩ ⟨Nat.le_refl _, Nat.le_refl _⟩ rfl rfl (Nat.le_of_ble_eq_true rfl) dX10_left_32 (p_X10_refuse hL (by decide)) ?_
      exact go_ireturn (Nat.le_refl _) (Nat.le_refl _) rfl dX10_left_35 h
    · have h := h.2 c8
      refine go_aload_n 0 dX10_left_17 rfl rfl ?_
      refine go_aload_n 0 dX10_left_18 rfl rfl ?_
      refine go_iload_n 1 dX10_left_19 rfl rfl ?_
      refine go_iload_n 2 dX10_left_20 rfl rfl ?_
      refine go_vI (M := MX10_leftOf) [vI v1, vI v2] [vR E 107] mv_X10_248 (hL.1 107 _ rfl) rfl (by decide) ⟨Nat.le_of_ble_eq_true rfl, Nat.le_of_ble_eq_true rfl⟩ ⟨Nat.le_refl _, Nat.le_refl _⟩ rfl rfl (Nat.le_of_ble_eq_true rfl) dX10_left_21 h (fun r12 D12 h => ?_)
      refine go_vIp (M := MX10_gives) [vI r12] [] mv_X10_204 (hL.1 107 _ rfl) rfl (by decide) ⟨Nat.le_of_ble_eq_true rfl, Nat.le_of_ble_eq_true rfl⟩ ⟨Nat.le_refl _, Nat.le_refl _⟩ rfl rfl (Nat.le_of_ble_eq_true rfl) dX10_left_24 (p_X10_gives hL) ?_
      refine go_goto 35 dX10_left_27 (by decide) ?_
      exact go_ireturn (Nat.le_refl _) (Nat.le_refl _) rfl dX10_left_35 h
theorem s_X10_round {l : Launch} {E : Ev} {Q : Int → Sh → Dm → Prop} {G : Sh} {D : Dm} (hL : Lay G) {v1 v2 : Int}  (h : ((-2147483648 ≤ v1 ∧ v1 < 2147483648)) ∧ ((¬ ((0 ≤ v1) ∧ (v1 < (D 108 2))) → Q (-1) G (upd2 D 107 1 1)) ∧ (((0 ≤ v1) ∧ (v1 < (D 108 2))) → ((-2147483648 ≤ v2 ∧ v2 < 2147483648)) ∧ ((¬ ((0 ≤ v2) ∧ (v2 < (iSl 1 (D 108 0)))) → Q (-1) G (upd2 D 107 1 1)) ∧ (((0 ≤ v2) ∧ (v2 < (iSl 1 (D 108 0)))) → C0 l E MX10_roundOf 0 [vR E 107, vI v1, vI v2] G D (fun r12 D12 => Q r12 G (upd2 D12 107 1 0))))))) : Ct l E MX10_round 0 0 0 [vR E 107, vI v1, vI v2] G D Q := by
  refine Ct.of (by decide) (Nat.le_of_ble_eq_true rfl) ?_
  show KX10_round l E Q 0 [(0, vR E 107), (1, vI v1), (2, vI v2)] G D
  obtain ⟨s1, h⟩ := h
  refine go_aload_n 0 dX10_round_0 rfl rfl ?_
  refine go_iload_n 1 dX10_round_1 rfl rfl ?_
  refine go_vIp (M := MX10_isFamily) [vI v1] [] mv_X10_223 (hL.1 107 _ rfl) rfl (by decide) ⟨Nat.le_of_ble_eq_true rfl, Nat.le_of_ble_eq_true rfl⟩ ⟨Nat.le_refl _, Nat.le_refl _⟩ rfl rfl (Nat.le_of_ble_eq_true rfl) dX10_round_2 (p_X10_isFamily hL s1) ?_
  refine go_ifb_eq 29 dX10_round_5 (by decide) (fun c3 => ?_) (fun c3 => ?_)
  · have h := h.1 c3
    refine go_aload_n 0 dX10_round_29 rfl rfl ?_
    refine go_iconst dX10_round_30 ?_
    refine go_vIp (M := MX10_refuse) [vI 1] [] mv_X10_194 (hL.1 107 _ rfl) rfl (by decide) ⟨Nat.le_of_ble_eq_true rfl, Nat.le_of_ble_eq_true rfl⟩ ⟨Nat.le_refl _, Nat.le_refl _⟩ rfl rfl (Nat.le_of_ble_eq_true rfl) dX10_round_31 (p_X10_refuse hL (by decide)) ?_
    exact go_ireturn (Nat.le_refl _) (Nat.le_refl _) rfl dX10_round_34 h
  · have h := h.2 c3
    obtain ⟨s6, h⟩ := h
    refine go_aload_n 0 dX10_round_8 rfl rfl ?_
    refine go_iload_n 2 dX10_round_9 rfl rfl ?_
    refine go_vIp (M := MX10_areStrips) [vI v2] [] mv_X10_281 (hL.1 107 _ rfl) rfl (by decide) ⟨Nat.le_of_ble_eq_true rfl, Nat.le_of_ble_eq_true rfl⟩ ⟨Nat.le_refl _, Nat.le_refl _⟩ rfl rfl (Nat.le_of_ble_eq_true rfl) dX10_round_10 (p_X10_areStrips hL s6) ?_
    refine go_ifb_eq 29 dX10_round_13 (by decide) (fun c8 => ?_) (fun c8 => ?_)
    · have h := h.1 c8
      refine go_aload_n 0 dX10_round_29 rfl rfl ?_
      refine go_iconst dX10_round_30 ?_
      refine go_vIp (M := MX10_refuse) [vI 1] [] mv_X10_194 (hL.1 107 _ rfl) rfl (by decide) ⟨Nat.le_of_ble_eq_true rfl, Nat.le_of_ble_eq_true rfl⟩ ⟨Nat.le_refl _, Nat.le_refl _⟩ rfl rfl (Nat.le_of_ble_eq_true rfl) dX10_round_31 (p_X10_refuse hL (by decide)) ?_
      exact go_ireturn (Nat.le_refl _) (Nat.le_refl _) rfl dX10_round_34 h
    · have h := h.2 c8
      refine go_aload_n 0 dX10_round_16 rfl rfl ?_
      refine go_aload_n 0 dX10_round_17 rfl rfl ?_
      refine go_iload_n 1 dX10_round_18 rfl rfl ?_
      refine go_iload_n 2 dX10_round_19 rfl rfl ?_
      refine go_vI (M := MX10_roundOf) [vI v1, vI v2] [vR E 107] mv_X10_254 (hL.1 107 _ rfl) rfl (by decide) ⟨Nat.le_of_ble_eq_true rfl, Nat.le_of_ble_eq_true rfl⟩ ⟨Nat.le_refl _, Nat.le_refl _⟩ rfl rfl (Nat.le_of_ble_eq_true rfl) dX10_round_20 h (fun r12 D12 h => ?_)
      refine go_vIp (M := MX10_gives) [vI r12] [] mv_X10_204 (hL.1 107 _ rfl) rfl (by decide) ⟨Nat.le_of_ble_eq_true rfl, Nat.le_of_ble_eq_true rfl⟩ ⟨Nat.le_refl _, Nat.le_refl _⟩ rfl rfl (Nat.le_of_ble_eq_true rfl) dX10_round_23 (p_X10_gives hL) ?_
      refine go_goto 34 dX10_round_26 (by decide) ?_
      exact go_ireturn (Nat.le_refl _) (Nat.le_refl _) rfl dX10_round_34 h
theorem s_X10_net {l : Launch} {E : Ev} {Q : Int → Sh → Dm → Prop} {G : Sh} {D : Dm} (hL : Lay G) {v1 v2 v3 : Int}  (h : ((-2147483648 ≤ v1 ∧ v1 < 2147483648)) ∧ ((¬ ((0 ≤ v1) ∧ (v1 < (D 108 2))) → Q (-1) G (upd2 D 107 1 1)) ∧ (((0 ≤ v1) ∧ (v1 < (D 108 2))) → ((-2147483648 ≤ v2 ∧ v2 < 2147483648)) ∧ ((¬ ((0 ≤ v2) ∧ (v2 < (iSl 1 (D 108 0)))) → Q (-1) G (upd2 D 107 1 1)) ∧ (((0 ≤ v2) ∧ (v2 < (iSl 1 (D 108 0)))) → ((-2147483648 ≤ v3 ∧ v3 < 2147483648)) ∧ ((((0 ≤ v3) ∧ (v3 < (jSl 1 (D 108 1)))) → C0 l E MX10_goesRound 2 [vR E 107, vI v1, vI v2] G D (fun r15 D15 => C0 l E MX10_netOf 0 [vR E 107, vI v2, vI v3] G D15 (fun r17 D17 => Q r17 G (upd2 D17 107 1 0)))) ∧ (¬ ((0 ≤ v3) ∧ (v3 < (jSl 1 (D 108 1)))) → Q (-1) G (upd2 D 107 1 1)))))))) : Ct l E MX10_net 0 0 0 [vR E 107, vI v1, vI v2, vI v3] G D Q := by
  refine Ct.of (by decide) (Nat.le_of_ble_eq_true rfl) ?_
  show KX10_net l E Q 0 [(0, vR E 107), (1, vI v1), (2, vI v2), (3, vI v3)] G D
  obtain ⟨s1, h⟩ := h
  refine go_aload_n 0 dX10_net_0 rfl rfl ?_
  refine go_iload_n 1 dX10_net_1 rfl rfl ?_
  refine go_vIp (M := MX10_isFamily) [vI v1] [] mv_X10_223 (hL.1 107 _ rfl) rfl (by decide) ⟨Nat.le_of_ble_eq_true rfl, Nat.le_of_ble_eq_true rfl⟩ ⟨Nat.le_refl _, Nat.le_refl _⟩ rfl rfl (Nat.le_of_ble_eq_true rfl) dX10_net_2 (p_X10_isFamily hL s1) ?_
  refine go_ifb_eq 25 dX10_net_5 (by decide) (fun c3 => ?_) (fun c3 => ?_)
  · have h := h.1 c3
    refine go_aload_n 0 dX10_net_25 rfl rfl ?_
    refine go_iconst dX10_net_26 ?_
    refine go_vIp (M := MX10_refuse) [vI 1] [] mv_X10_194 (hL.1 107 _ rfl) rfl (by decide) ⟨Nat.le_of_ble_eq_true rfl, Nat.le_of_ble_eq_true rfl⟩ ⟨Nat.le_refl _, Nat.le_refl _⟩ rfl rfl (Nat.le_of_ble_eq_true rfl) dX10_net_27 (p_X10_refuse hL (by decide)) ?_
    exact go_ireturn (Nat.le_refl _) (Nat.le_refl _) rfl dX10_net_30 h
  · have h := h.2 c3
    obtain ⟨s6, h⟩ := h
    refine go_aload_n 0 dX10_net_8 rfl rfl ?_
    refine go_iload_n 2 dX10_net_9 rfl rfl ?_
    refine go_vIp (M := MX10_areStrips) [vI v2] [] mv_X10_281 (hL.1 107 _ rfl) rfl (by decide) ⟨Nat.le_of_ble_eq_true rfl, Nat.le_of_ble_eq_true rfl⟩ ⟨Nat.le_refl _, Nat.le_refl _⟩ rfl rfl (Nat.le_of_ble_eq_true rfl) dX10_net_10 (p_X10_areStrips hL s6) ?_
    refine go_ifb_eq 25 dX10_net_13 (by decide) (fun c8 => ?_) (fun c8 => ?_)
    · have h := h.1 c8
      refine go_aload_n 0 dX10_net_25 rfl rfl ?_
      refine go_iconst dX10_net_26 ?_
      refine go_vIp (M := MX10_refuse) [vI 1] [] mv_X10_194 (hL.1 107 _ rfl) rfl (by decide) ⟨Nat.le_of_ble_eq_true rfl, Nat.le_of_ble_eq_true rfl⟩ ⟨Nat.le_refl _, Nat.le_refl _⟩ rfl rfl (Nat.le_of_ble_eq_true rfl) dX10_net_27 (p_X10_refuse hL (by decide)) ?_
      exact go_ireturn (Nat.le_refl _) (Nat.le_refl _) rfl dX10_net_30 h
    · have h := h.2 c8
      obtain ⟨s11, h⟩ := h
      refine go_aload_n 0 dX10_net_16 rfl rfl ?_
      refine go_iload_n 3 dX10_net_17 rfl rfl ?_
      refine go_i2l s11 dX10_net_18 ?_
      refine go_vIp (M := MX10_isLot) [vJ v3] [] mv_X10_273 (hL.1 107 _ rfl) rfl (by decide) ⟨Nat.le_of_ble_eq_true rfl, Nat.le_of_ble_eq_true rfl⟩ ⟨Nat.le_refl _, Nat.le_refl _⟩ rfl rfl (Nat.le_of_ble_eq_true rfl) dX10_net_19 (p_X10_isLot hL (rIJ s11)) ?_
      refine go_ifb_ne 31 dX10_net_22 (by decide) (fun c13 => ?_) (fun c13 => ?_)
      · have h := h.1 c13
        refine go_aload_n 0 dX10_net_31 rfl rfl ?_
        refine go_iload_n 1 dX10_net_32 rfl rfl ?_
        refine go_iload_n 2 dX10_net_33 rfl rfl ?_
        refine go_vV (M := MX10_goesRound) [vI v1, vI v2] [] mv_X10_257 (hL.1 107 _ rfl) rfl (by decide) ⟨Nat.le_of_ble_eq_true rfl, Nat.le_of_ble_eq_true rfl⟩ ⟨Nat.le_refl _, Nat.le_refl _⟩ rfl rfl (Nat.le_of_ble_eq_true rfl) dX10_net_34 h (fun r15 D15 h => ?_)
        refine go_aload_n 0 dX10_net_37 rfl rfl ?_
        refine go_aload_n 0 dX10_net_38 rfl rfl ?_
        refine go_iload_n 2 dX10_net_39 rfl rfl ?_
        refine go_iload_n 3 dX10_net_40 rfl rfl ?_
        refine go_vI (M := MX10_netOf) [vI v2, vI v3] [vR E 107] mv_X10_267 (hL.1 107 _ rfl) rfl (by decide) ⟨Nat.le_of_ble_eq_true rfl, Nat.le_of_ble_eq_true rfl⟩ ⟨Nat.le_refl _, Nat.le_refl _⟩ rfl rfl (Nat.le_of_ble_eq_true rfl) dX10_net_41 h (fun r17 D17 h => ?_)
        refine go_vIp (M := MX10_gives) [vI r17] [] mv_X10_204 (hL.1 107 _ rfl) rfl (by decide) ⟨Nat.le_of_ble_eq_true rfl, Nat.le_of_ble_eq_true rfl⟩ ⟨Nat.le_refl _, Nat.le_refl _⟩ rfl rfl (Nat.le_of_ble_eq_true rfl) dX10_net_44 (p_X10_gives hL) ?_
        exact go_ireturn (Nat.le_refl _) (Nat.le_refl _) rfl dX10_net_47 h
      · have h := h.2 c13
        refine go_aload_n 0 dX10_net_25 rfl rfl ?_
        refine go_iconst dX10_net_26 ?_
        refine go_vIp (M := MX10_refuse) [vI 1] [] mv_X10_194 (hL.1 107 _ rfl) rfl (by decide) ⟨Nat.le_of_ble_eq_true rfl, Nat.le_of_ble_eq_true rfl⟩ ⟨Nat.le_refl _, Nat.le_refl _⟩ rfl rfl (Nat.le_of_ble_eq_true rfl) dX10_net_27 (p_X10_refuse hL (by decide)) ?_
        exact go_ireturn (Nat.le_refl _) (Nat.le_refl _) rfl dX10_net_30 h
theorem s_X10_atMost {l : Launch} {E : Ev} {Q : Int → Sh → Dm → Prop} {G : Sh} {D : Dm} (hL : Lay G) {v1 v2 v3 : Int}  (h : C0 l E MX10_goesRound 2 [vR E 107, vI v1, vI v2] G D (fun r2 D2 => KX10_atMost l E Q 12 [(0, vR E 107), (1, vI v1), (2, vI v2), (3, vI v3), (4, vJ 0), (6, vI 0)] G D2)) : Ct l E MX10_atMost 1 0 0 [vR E 107, vI v1, vI v2, vI v3] G D Q := by
  refine Ct.of (by decide) (Nat.le_of_ble_eq_true rfl) ?_
  show KX10_atMost l E Q 0 [(0, vR E 107), (1, vI v1), (2, vI v2), (3, vI v3)] G D
  refine go_aload_n 0 dX10_atMost_0 rfl rfl ?_
  refine go_iload_n 1 dX10_atMost_1 rfl rfl ?_
  refine go_iload_n 2 dX10_atMost_2 rfl rfl ?_
  refine go_vV (M := MX10_goesRound) [vI v1, vI v2] [] mv_X10_257 (hL.1 107 _ rfl) rfl (by decide) ⟨Nat.le_of_ble_eq_true rfl, Nat.le_of_ble_eq_true rfl⟩ ⟨Nat.le_refl _, Nat.le_refl _⟩ rfl rfl (Nat.le_of_ble_eq_true rfl) dX10_atMost_3 h (fun r2 D2 h => ?_)
  refine go_lconst (x := 0) dX10_atMost_6 rfl ?_
  refine go_lstore [1, 2, 3, 4, 0] (L' := [(0, vR E 107), (1, vI v1), (2, vI v2), (3, vI v3), (4, vJ 0)]) dX10_atMost_7 (by decide) rfl ?_
  refine go_iconst dX10_atMost_9 ?_
  refine go_istore [1, 2, 3, 4, 5, 0] (L' := [(0, vR E 107), (1, vI v1), (2, vI v2), (3, vI v3), (4, vJ 0), (6, vI 0)]) dX10_atMost_10 (by decide) rfl ?_
  exact h
theorem s_X10_atMost_12 {l : Launch} {E : Ev} {Q : Int → Sh → Dm → Prop} {G : Sh} {D : Dm} (hL : Lay G) {v1 v2 v3 v4 v6 : Int}  (h : ((-2147483648 ≤ v6 ∧ v6 < 2147483648)) ∧ (((iSl 1 (D 108 1)) ≤ v6 → Q v4 G D) ∧ (v6 < (iSl 1 (D 108 1)) → C0 l E MX10_netOf 0 [vR E 107, vI v2, vI v6] G D (fun r6 D6 => ((-2147483648 ≤ r6 ∧ r6 < 2147483648) ∧ (-2147483648 ≤ v3 ∧ v3 < 2147483648)) ∧ ((v3 < r6 → KX10_atMost l E Q 12 [(0, vR E 107), (1, vI v1), (2, vI v2), (3, vI v3), (4, vJ (v4 + 0)), (6, vI (v6 + 1))] G D6) ∧ (r6 ≤ v3 → C0 l E MX10_weightOf 1 [vR E 107, vI v6] G D6 (fun r11 D11 => KX10_atMost l E Q 12 [(0, vR E 107), (1, vI v1), (2, vI v2), (3, vI v3), (4, vJ (v4 + r11)), (6, vI (v6 + 1))] G D11))))))) : KX10_atMost l E Q 12 [(0, vR E 107), (1, vI v1), (2, vI v2), (3, vI v3), (4, vJ v4), (6, vI v6)] G D := by
  obtain ⟨s1, h⟩ := h
  refine go_iload 5 dX10_atMost_12 rfl ?_
  refine go_aload_n 0 dX10_atMost_14 rfl rfl ?_
  refine go_vIp (M := MX10_lots) [] [vI v6] mv_X10_260 (hL.1 107 _ rfl) rfl (by decide) ⟨Nat.le_of_ble_eq_true rfl, Nat.le_of_ble_eq_true rfl⟩ ⟨Nat.le_refl _, Nat.le_refl _⟩ rfl rfl (Nat.le_of_ble_eq_true rfl) dX10_atMost_15 (p_X10_lots hL) ?_
  refine go_icmp_ge 53 dX10_atMost_18 (by decide) s1 (r32 _) (fun c3 => ?_) (fun c3 => ?_)
  · have h := h.1 c3
    refine go_lload 4 dX10_atMost_53 rfl ?_
    exact go_lreturn (Nat.le_refl _) (Nat.le_refl _) rfl dX10_atMost_55 h
  · have h := h.2 c3
    refine go_lload 4 dX10_atMost_21 rfl ?_
    refine go_aload_n 0 dX10_atMost_23 rfl rfl ?_
    refine go_iload_n 2 dX10_atMost_24 rfl rfl ?_
    refine go_iload 5 dX10_atMost_25 rfl ?_
    refine go_vI (M := MX10_netOf) [vI v2, vI v6] [vJ v4] mv_X10_267 (hL.1 107 _ rfl) rfl (by decide) ⟨Nat.le_of_ble_eq_true rfl, Nat.le_of_ble_eq_true rfl⟩ ⟨Nat.le_refl _, Nat.le_refl _⟩ rfl rfl (Nat.le_of_ble_eq_true rfl) dX10_atMost_27 h (fun r6 D6 h => ?_)
    obtain ⟨s7, h⟩ := h
    refine go_iload_n 3 dX10_atMost_30 rfl rfl ?_
    refine go_icmp_gt 43 dX10_atMost_31 (by decide) s7.1 s7.2 (fun c8 => ?_) (fun c8 => ?_)
    · have h := h.1 c8
      refine go_lconst (x := 0) dX10_atMost_43 rfl ?_
      refine go_ladd dX10_atMost_44 ?_
      refine go_lstore [1, 2, 3, 4, 0, 5] (L' := [(0, vR E 107), (1, vI v1), (2, vI v2), (3, vI v3), (4, vJ (v4 + 0)), (6, vI v6)]) dX10_atMost_45 (by decide) rfl ?_
      refine go_iinc 5 [1, 2, 3, 4, 5, 0] (L' := [(0, vR E 107), (1, vI v1), (2, vI v2), (3, vI v3), (4, vJ (v4 + 0)), (6, vI (v6 + 1))]) dX10_atMost_47 (by decide) rfl rfl ?_
      refine go_goto 12 dX10_atMost_50 (by decide) ?_
      exact h
    · have h := h.2 c8
      refine go_aload_n 0 dX10_atMost_34 rfl rfl ?_
      refine go_iload 5 dX10_atMost_35 rfl ?_
      refine go_vJ (M := MX10_weightOf) [vI v6] [vJ v4] mv_X10_263 (hL.1 107 _ rfl) rfl (by decide) ⟨Nat.le_of_ble_eq_true rfl, Nat.le_of_ble_eq_true rfl⟩ ⟨Nat.le_refl _, Nat.le_refl _⟩ rfl rfl (Nat.le_of_ble_eq_true rfl) dX10_atMost_37 h (fun r11 D11 h => ?_)
      refine go_goto 44 dX10_atMost_40 (by decide) ?_
      refine go_ladd dX10_atMost_44 ?_
      refine go_lstore [1, 2, 3, 4, 0, 5] (L' := [(0, vR E 107), (1, vI v1), (2, vI v2), (3, vI v3), (4, vJ (v4 + r11)), (6, vI v6)]) dX10_atMost_45 (by decide) rfl ?_
      refine go_iinc 5 [1, 2, 3, 4, 5, 0] (L' := [(0, vR E 107), (1, vI v1), (2, vI v2), (3, vI v3), (4, vJ (v4 + r11)), (6, vI (v6 + 1))]) dX10_atMost_47 (by decide) rfl rfl ?_
      refine go_goto 12 dX10_atMost_50 (by decide) ?_
      exact h
theorem s_X10_odds {l : Launch} {E : Ev} {Q : Int → Sh → Dm → Prop} {G : Sh} {D : Dm} (hL : Lay G) {v1 v2 v3 : Int}  (h : ((-2147483648 ≤ v1 ∧ v1 < 2147483648)) ∧ ((¬ ((0 ≤ v1) ∧ (v1 < (D 108 2))) → Q 0 G (upd2 D 107 1 1)) ∧ (((0 ≤ v1) ∧ (v1 < (D 108 2))) → ((-2147483648 ≤ v2 ∧ v2 < 2147483648)) ∧ ((¬ ((0 ≤ v2) ∧ (v2 < (iSl 1 (D 108 0)))) → Q 0 G (upd2 D 107 1 1)) ∧ (((0 ≤ v2) ∧ (v2 < (iSl 1 (D 108 0)))) → ((-2147483648 ≤ v3 ∧ v3 < 2147483648)) ∧ ((v3 < 0 → Q 0 G (upd2 D 107 1 1)) ∧ (0 ≤ v3 → ((v3 ≤ 9999 → C0 l E MX10_atMost 1 [vR E 107, vI v1, vI v2, vI v3] G D (fun r18 D18 => C0 l E MX10_allLots 1 [vR E 107] G D18 (fun r20 D20 => C0 l E MX10_tells 0 [vR E 107, vJ r18, vJ r20] G D20 (fun r22 D22 => ((r22 = 0 ∨ r22 = 1)) ∧ Q r22 G D22)))) ∧ (9999 < v3 → Q 0 G (upd2 D 107 1 1)))))))))) : Ct l E MX10_odds 0 0 0 [vR E 107, vI v1, vI v2, vI v3] G D Q := by
  refine Ct.of (by decide) (Nat.le_of_ble_eq_true rfl) ?_
  show KX10_odds l E Q 0 [(0, vR E 107), (1, vI v1), (2, vI v2), (3, vI v3)] G D
  obtain ⟨s1, h⟩ := h
  refine go_aload_n 0 dX10_odds_0 rfl rfl ?_
  refine go_iload_n 1 dX10_odds_1 rfl rfl ?_
  refine go_vIp (M := MX10_isFamily) [vI v1] [] mv_X10_223 (hL.1 107 _ rfl) rfl (by decide) ⟨Nat.le_of_ble_eq_true rfl, Nat.le_of_ble_eq_true rfl⟩ ⟨Nat.le_refl _, Nat.le_refl _⟩ rfl rfl (Nat.le_of_ble_eq_true rfl) dX10_odds_2 (p_X10_isFamily hL s1) ?_
  refine go_ifb_eq 27 dX10_odds_5 (by decide) (fun c3 => ?_) (fun c3 => ?_)
  · have h := h.1 c3
    refine go_aload_n 0 dX10_odds_27 rfl rfl ?_
    refine go_iconst dX10_odds_28 ?_
    refine go_vIp (M := MX10_is) [vI 1] [] mv_X10_88 (hL.1 107 _ rfl) rfl (by decide) ⟨Nat.le_of_ble_eq_true rfl, Nat.le_of_ble_eq_true rfl⟩ ⟨Nat.le_refl _, Nat.le_refl _⟩ rfl rfl (Nat.le_of_ble_eq_true rfl) dX10_odds_29 (p_X10_is hL (by decide)) ?_
    exact go_zreturn (Nat.le_refl _) (Nat.le_refl _) rfl (by decide) dX10_odds_32 h
  · have h := h.2 c3
    obtain ⟨s6, h⟩ := h
    refine go_aload_n 0 dX10_odds_8 rfl rfl ?_
    refine go_iload_n 2 dX10_odds_9 rfl rfl ?_
    refine go_vIp (M := MX10_areStrips) [vI v2] [] mv_X10_281 (hL.1 107 _ rfl) rfl (by decide) ⟨Nat.le_of_ble_eq_true rfl, Nat.le_of_ble_eq_true rfl⟩ ⟨Nat.le_refl _, Nat.le_refl _⟩ rfl rfl (Nat.le_of_ble_eq_true rfl) dX10_odds_10 (p_X10_areStrips hL s6) ?_
    refine go_ifb_eq 27 dX10_odds_13 (by decide) (fun c8 => ?_) (fun c8 => ?_)
    · have h := h.1 c8
      refine go_aload_n 0 dX10_odds_27 rfl rfl ?_
      refine go_iconst dX10_odds_28 ?_
      refine go_vIp (M := MX10_is) [vI 1] [] mv_X10_88 (hL.1 107 _ rfl) rfl (by decide) ⟨Nat.le_of_ble_eq_true rfl, Nat.le_of_ble_eq_true rfl⟩ ⟨Nat.le_refl _, Nat.le_refl _⟩ rfl rfl (Nat.le_of_ble_eq_true rfl) dX10_odds_29 (p_X10_is hL (by decide)) ?_
      exact go_zreturn (Nat.le_refl _) (Nat.le_refl _) rfl (by decide) dX10_odds_32 h
    · have h := h.2 c8
      obtain ⟨s11, h⟩ := h
      refine go_iload_n 3 dX10_odds_16 rfl rfl ?_
      refine go_if_lt 27 dX10_odds_17 (by decide) s11 (fun c12 => ?_) (fun c12 => ?_)
      · have h := h.1 c12
        refine go_aload_n 0 dX10_odds_27 rfl rfl ?_
        refine go_iconst dX10_odds_28 ?_
        refine go_vIp (M := MX10_is) [vI 1] [] mv_X10_88 (hL.1 107 _ rfl) rfl (by decide) ⟨Nat.le_of_ble_eq_true rfl, Nat.le_of_ble_eq_true rfl⟩ ⟨Nat.le_refl _, Nat.le_refl _⟩ rfl rfl (Nat.le_of_ble_eq_true rfl) dX10_odds_29 (p_X10_is hL (by decide)) ?_
        exact go_zreturn (Nat.le_refl _) (Nat.le_refl _) rfl (by decide) dX10_odds_32 h
      · have h := h.2 c12
        refine go_iload_n 3 dX10_odds_20 rfl rfl ?_
        refine go_sipush dX10_odds_21 (by decide) ?_
        refine go_icmp_le 33 dX10_odds_24 (by decide) s11 (by decide) (fun c16 => ?_) (fun c16 => ?_)
        · have h := h.1 c16
          refine go_aload_n 0 dX10_odds_33 rfl rfl ?_
          refine go_aload_n 0 dX10_odds_34 rfl rfl ?_
          refine go_iload_n 1 dX10_odds_35 rfl rfl ?_
          refine go_iload_n 2 dX10_odds_36 rfl rfl ?_
          refine go_iload_n 3 dX10_odds_37 rfl rfl ?_
          refine go_vJ (M := MX10_atMost) [vI v1, vI v2, vI v3] [vR E 107] mv_X10_284 (hL.1 107 _ rfl) rfl (by decide) ⟨Nat.le_of_ble_eq_true rfl, Nat.le_of_ble_eq_true rfl⟩ ⟨Nat.le_refl _, Nat.le_refl _⟩ rfl rfl (Nat.le_of_ble_eq_true rfl) dX10_odds_38 h (fun r18 D18 h => ?_)
          refine go_aload_n 0 dX10_odds_41 rfl rfl ?_
          refine go_vJ (M := MX10_allLots) [] [vJ r18, vR E 107] mv_X10_288 (hL.1 107 _ rfl) rfl (by decide) ⟨Nat.le_of_ble_eq_true rfl, Nat.le_of_ble_eq_true rfl⟩ ⟨Nat.le_refl _, Nat.le_refl _⟩ rfl rfl (Nat.le_of_ble_eq_true rfl) dX10_odds_42 h (fun r20 D20 h => ?_)
          refine go_vI (M := MX10_tells) [vJ r18, vJ r20] [] mv_X10_291 (hL.1 107 _ rfl) rfl (by decide) ⟨Nat.le_of_ble_eq_true rfl, Nat.le_of_ble_eq_true rfl⟩ ⟨Nat.le_refl _, Nat.le_refl _⟩ rfl rfl (Nat.le_of_ble_eq_true rfl) dX10_odds_45 h (fun r22 D22 h => ?_)
          obtain ⟨s23, h⟩ := h
          exact go_zreturn (Nat.le_refl _) (Nat.le_refl _) rfl s23 dX10_odds_48 h
        · have h := h.2 c16
          refine go_aload_n 0 dX10_odds_27 rfl rfl ?_
          refine go_iconst dX10_odds_28 ?_
          refine go_vIp (M := MX10_is) [vI 1] [] mv_X10_88 (hL.1 107 _ rfl) rfl (by decide) ⟨Nat.le_of_ble_eq_true rfl, Nat.le_of_ble_eq_true rfl⟩ ⟨Nat.le_refl _, Nat.le_refl _⟩ rfl rfl (Nat.le_of_ble_eq_true rfl) dX10_odds_29 (p_X10_is hL (by decide)) ?_
          exact go_zreturn (Nat.le_refl _) (Nat.le_refl _) rfl (by decide) dX10_odds_32 h
theorem s_X10_hungry {l : Launch} {E : Ev} {Q : Int → Sh → Dm → Prop} {G : Sh} {D : Dm} (hL : Lay G) {v1 v2 : Int}  (h : ((-2147483648 ≤ v1 ∧ v1 < 2147483648)) ∧ ((¬ ((0 ≤ v1) ∧ (v1 < (D 108 2))) → Q 0 G (upd2 D 107 1 1)) ∧ (((0 ≤ v1) ∧ (v1 < (D 108 2))) → ((-2147483648 ≤ v2 ∧ v2 < 2147483648)) ∧ ((((0 ≤ v2) ∧ (v2 < (iSl 1 (D 108 0)))) → ((0 ≤ ((88 + (3 * v1)) + 2) ∧ ((88 + (3 * v1)) + 2) < 500)) ∧ C0 l E MX10_atMost 1 [vR E 107, vI v1, vI v2, vI ((D 108 ((88 + (3 * v1)) + 2)) - 1)] G D (fun r11 D11 => C0 l E MX10_allLots 1 [vR E 107] G D11 (fun r13 D13 => C0 l E MX10_tells 0 [vR E 107, vJ r11, vJ r13] G D13 (fun r15 D15 => ((r15 = 0 ∨ r15 = 1)) ∧ Q r15 G D15)))) ∧ (¬ ((0 ≤ v2) ∧ (v2 < (iSl 1 (D 108 0)))) → Q 0 G (upd2 D 107 1 1)))))) : Ct l E MX10_hungry 0 0 0 [vR E 107, vI v1, vI v2] G D Q := by
  refine Ct.of (by decide) (Nat.le_of_ble_eq_true rfl) ?_
  show KX10_hungry l E Q 0 [(0, vR E 107), (1, vI v1), (2, vI v2)] G D
  obtain ⟨s1, h⟩ := h
  refine go_aload_n 0 dX10_hungry_0 rfl rfl ?_
  refine go_iload_n 1 dX10_hungry_1 rfl rfl ?_
  refine go_vIp (M := MX10_isFamily) [vI v1] [] mv_X10_223 (hL.1 107 _ rfl) rfl (by decide) ⟨Nat.le_of_ble_eq_true rfl, Nat.le_of_ble_eq_true rfl⟩ ⟨Nat.le_refl _, Nat.le_refl _⟩ rfl rfl (Nat.le_of_ble_eq_true rfl) dX10_hungry_2 (p_X10_isFamily hL s1) ?_
  refine go_ifb_eq 16 dX10_hungry_5 (by decide) (fun c3 => ?_) (fun c3 => ?_)
  · have h := h.1 c3
    refine go_aload_n 0 dX10_hungry_16 rfl rfl ?_
    refine go_iconst dX10_hungry_17 ?_
    refine go_vIp (M := MX10_is) [vI 1] [] mv_X10_88 (hL.1 107 _ rfl) rfl (by decide) ⟨Nat.le_of_ble_eq_true rfl, Nat.le_of_ble_eq_true rfl⟩ ⟨Nat.le_refl _, Nat.le_refl _⟩ rfl rfl (Nat.le_of_ble_eq_true rfl) dX10_hungry_18 (p_X10_is hL (by decide)) ?_
    exact go_zreturn (Nat.le_refl _) (Nat.le_refl _) rfl (by decide) dX10_hungry_21 h
  · have h := h.2 c3
    obtain ⟨s6, h⟩ := h
    refine go_aload_n 0 dX10_hungry_8 rfl rfl ?_
    refine go_iload_n 2 dX10_hungry_9 rfl rfl ?_
    refine go_vIp (M := MX10_areStrips) [vI v2] [] mv_X10_281 (hL.1 107 _ rfl) rfl (by decide) ⟨Nat.le_of_ble_eq_true rfl, Nat.le_of_ble_eq_true rfl⟩ ⟨Nat.le_refl _, Nat.le_refl _⟩ rfl rfl (Nat.le_of_ble_eq_true rfl) dX10_hungry_10 (p_X10_areStrips hL s6) ?_
    refine go_ifb_ne 22 dX10_hungry_13 (by decide) (fun c8 => ?_) (fun c8 => ?_)
    · have h := h.1 c8
      obtain ⟨s9, h⟩ := h
      refine go_aload_n 0 dX10_hungry_22 rfl rfl ?_
      refine go_aload_n 0 dX10_hungry_23 rfl rfl ?_
      refine go_iload_n 1 dX10_hungry_24 rfl rfl ?_
      refine go_iload_n 2 dX10_hungry_25 rfl rfl ?_
      refine go_aload_n 0 dX10_hungry_26 rfl rfl ?_
      refine go_iload_n 1 dX10_hungry_27 rfl rfl ?_
      refine go_iconst dX10_hungry_28 ?_
      refine go_vIp (M := MX10_ofFamily) [vI v1, vI 2] [vI v2, vI v1, vR E 107, vR E 107] mv_X10_226 (hL.1 107 _ rfl) rfl (by decide) ⟨Nat.le_of_ble_eq_true rfl, Nat.le_of_ble_eq_true rfl⟩ ⟨Nat.le_refl _, Nat.le_refl _⟩ rfl rfl (Nat.le_of_ble_eq_true rfl) dX10_hungry_29 (p_X10_ofFamily hL s9) ?_
      refine go_iconst dX10_hungry_32 ?_
      refine go_isub dX10_hungry_33 ?_
      refine go_vJ (M := MX10_atMost) [vI v1, vI v2, vI ((D 108 ((88 + (3 * v1)) + 2)) - 1)] [vR E 107] mv_X10_284 (hL.1 107 _ rfl) rfl (by decide) ⟨Nat.le_of_ble_eq_true rfl, Nat.le_of_ble_eq_true rfl⟩ ⟨Nat.le_refl _, Nat.le_refl _⟩ rfl rfl (Nat.le_of_ble_eq_true rfl) dX10_hungry_34 h (fun r11 D11 h => ?_)
      refine go_aload_n 0 dX10_hungry_37 rfl rfl ?_
      refine go_vJ (M := MX10_allLots) [] [vJ r11, vR E 107] mv_X10_288 (hL.1 107 _ rfl) rfl (by decide) ⟨Nat.le_of_ble_eq_true rfl, Nat.le_of_ble_eq_true rfl⟩ ⟨Nat.le_refl _, Nat.le_refl _⟩ rfl rfl (Nat.le_of_ble_eq_true rfl) dX10_hungry_38 h (fun r13 D13 h => ?_)
      refine go_vI (M := MX10_tells) [vJ r11, vJ r13] [] mv_X10_291 (hL.1 107 _ rfl) rfl (by decide) ⟨Nat.le_of_ble_eq_true rfl, Nat.le_of_ble_eq_true rfl⟩ ⟨Nat.le_refl _, Nat.le_refl _⟩ rfl rfl (Nat.le_of_ble_eq_true rfl) dX10_hungry_41 h (fun r15 D15 h => ?_)
      obtain ⟨s16, h⟩ := h
      exact go_zreturn (Nat.le_refl _) (Nat.le_refl _) rfl s16 dX10_hungry_44 h
    · have h := h.2 c8
      refine go_aload_n 0 dX10_hungry_16 rfl rfl ?_
      refine go_iconst dX10_hungry_17 ?_
      refine go_vIp (M := MX10_is) [vI 1] [] mv_X10_88 (hL.1 107 _ rfl) rfl (by decide) ⟨Nat.le_of_ble_eq_true rfl, Nat.le_of_ble_eq_true rfl⟩ ⟨Nat.le_refl _, Nat.le_refl _⟩ rfl rfl (Nat.le_of_ble_eq_true rfl) dX10_hungry_18 (p_X10_is hL (by decide)) ?_
      exact go_zreturn (Nat.le_refl _) (Nat.le_refl _) rfl (by decide) dX10_hungry_21 h
theorem s_X10_worth {l : Launch} {E : Ev} {Q : Int → Sh → Dm → Prop} {G : Sh} {D : Dm} (hL : Lay G) {v1 v2 : Int}  (h : ((-2147483648 ≤ v1 ∧ v1 < 2147483648)) ∧ ((¬ ((0 ≤ v1) ∧ (v1 < (D 108 2))) → Q 0 G (upd2 D 107 1 1)) ∧ (((0 ≤ v1) ∧ (v1 < (D 108 2))) → ((-2147483648 ≤ v2 ∧ v2 < 2147483648)) ∧ ((((0 ≤ v2) ∧ (v2 < (iSl 1 (D 108 0)))) → C0 l E MX10_worthOf 1 [vR E 107, vI v1, vI v2] G D (fun r10 D10 => C0 l E MX10_allLots 1 [vR E 107] G D10 (fun r12 D12 => C0 l E MX10_tells 0 [vR E 107, vJ r10, vJ r12] G D12 (fun r14 D14 => ((r14 = 0 ∨ r14 = 1)) ∧ Q r14 G D14)))) ∧ (¬ ((0 ≤ v2) ∧ (v2 < (iSl 1 (D 108 0)))) → Q 0 G (upd2 D 107 1 1)))))) : Ct l E MX10_worth 0 0 0 [vR E 107, vI v1, vI v2] G D Q := by
  refine Ct.of (by decide) (Nat.le_of_ble_eq_true rfl) ?_
  show KX10_worth l E Q 0 [(0, vR E 107), (1, vI v1), (2, vI v2)] G D
  obtain ⟨s1, h⟩ := h
  refine go_aload_n 0 dX10_worth_0 rfl rfl ?_
  refine go_iload_n 1 dX10_worth_1 rfl rfl ?_
  refine go_vIp (M := MX10_isFamily) [vI v1] [] mv_X10_223 (hL.1 107 _ rfl) rfl (by decide) ⟨Nat.le_of_ble_eq_true rfl, Nat.le_of_ble_eq_true rfl⟩ ⟨Nat.le_refl _, Nat.le_refl _⟩ rfl rfl (Nat.le_of_ble_eq_true rfl) dX10_worth_2 (p_X10_isFamily hL s1) ?_
  refine go_ifb_eq 16 dX10_worth_5 (by decide) (fun c3 => ?_) (fun c3 => ?_)
  · have h := h.1 c3
    refine go_aload_n 0 dX10_worth_16 rfl rfl ?_
    refine go_iconst dX10_worth_17 ?_
    refine go_vIp (M := MX10_is) [vI 1] [] mv_X10_88 (hL.1 107 _ rfl) rfl (by decide) ⟨Nat.le_of_ble_eq_true rfl, Nat.le_of_ble_eq_true rfl⟩ ⟨Nat.le_refl _, Nat.le_refl _⟩ rfl rfl (Nat.le_of_ble_eq_true rfl) dX10_worth_18 (p_X10_is hL (by decide)) ?_
    exact go_zreturn (Nat.le_refl _) (Nat.le_refl _) rfl (by decide) dX10_worth_21 h
  · have h := h.2 c3
    obtain ⟨s6, h⟩ := h
    refine go_aload_n 0 dX10_worth_8 rfl rfl ?_
    refine go_iload_n 2 dX10_worth_9 rfl rfl ?_
    refine go_vIp (M := MX10_areStrips) [vI v2] [] mv_X10_281 (hL.1 107 _ rfl) rfl (by decide) ⟨Nat.le_of_ble_eq_true rfl, Nat.le_of_ble_eq_true rfl⟩ ⟨Nat.le_refl _, Nat.le_refl _⟩ rfl rfl (Nat.le_of_ble_eq_true rfl) dX10_worth_10 (p_X10_areStrips hL s6) ?_
    refine go_ifb_ne 22 dX10_worth_13 (by decide) (fun c8 => ?_) (fun c8 => ?_)
    · have h := h.1 c8
      refine go_aload_n 0 dX10_worth_22 rfl rfl ?_
      refine go_aload_n 0 dX10_worth_23 rfl rfl ?_
      refine go_iload_n 1 dX10_worth_24 rfl rfl ?_
      refine go_iload_n 2 dX10_worth_25 rfl rfl ?_
      refine go_vJ (M := MX10_worthOf) [vI v1, vI v2] [vR E 107] mv_X10_295 (hL.1 107 _ rfl) rfl (by decide) ⟨Nat.le_of_ble_eq_true rfl, Nat.le_of_ble_eq_true rfl⟩ ⟨Nat.le_refl _, Nat.le_refl _⟩ rfl rfl (Nat.le_of_ble_eq_true rfl) dX10_worth_26 h (fun r10 D10 h => ?_)
      refine go_aload_n 0 dX10_worth_29 rfl rfl ?_
      refine go_vJ (M := MX10_allLots) [] [vJ r10, vR E 107] mv_X10_288 (hL.1 107 _ rfl) rfl (by decide) ⟨Nat.le_of_ble_eq_true rfl, Nat.le_of_ble_eq_true rfl⟩ ⟨Nat.le_refl _, Nat.le_refl _⟩ rfl rfl (Nat.le_of_ble_eq_true rfl) dX10_worth_30 h (fun r12 D12 h => ?_)
      refine go_vI (M := MX10_tells) [vJ r10, vJ r12] [] mv_X10_291 (hL.1 107 _ rfl) rfl (by decide) ⟨Nat.le_of_ble_eq_true rfl, Nat.le_of_ble_eq_true rfl⟩ ⟨Nat.le_refl _, Nat.le_refl _⟩ rfl rfl (Nat.le_of_ble_eq_true rfl) dX10_worth_33 h (fun r14 D14 h => ?_)
      obtain ⟨s15, h⟩ := h
      exact go_zreturn (Nat.le_refl _) (Nat.le_refl _) rfl s15 dX10_worth_36 h
    · have h := h.2 c8
      refine go_aload_n 0 dX10_worth_16 rfl rfl ?_
      refine go_iconst dX10_worth_17 ?_
      refine go_vIp (M := MX10_is) [vI 1] [] mv_X10_88 (hL.1 107 _ rfl) rfl (by decide) ⟨Nat.le_of_ble_eq_true rfl, Nat.le_of_ble_eq_true rfl⟩ ⟨Nat.le_refl _, Nat.le_refl _⟩ rfl rfl (Nat.le_of_ble_eq_true rfl) dX10_worth_18 (p_X10_is hL (by decide)) ?_
      exact go_zreturn (Nat.le_refl _) (Nat.le_refl _) rfl (by decide) dX10_worth_21 h
theorem s_X10_mayHave {l : Launch} {E : Ev} {Q : Int → Sh → Dm → Prop} {G : Sh} {D : Dm} (hL : Lay G) {v1 : Int}  (h : KX10_mayHave l E Q 4 [(0, vR E 107), (1, vI v1), (2, vI 0), (3, vI 0)] G D) : Ct l E MX10_mayHave 0 0 0 [vR E 107, vI v1] G D Q := by
  refine Ct.of (by decide) (Nat.le_of_ble_eq_true rfl) ?_
  show KX10_mayHave l E Q 0 [(0, vR E 107), (1, vI v1)] G D
  refine go_iconst dX10_mayHave_0 ?_
  refine go_istore_n [1, 2, 0] (L' := [(0, vR E 107), (1, vI v1), (2, vI 0)]) dX10_mayHave_1 rfl (by decide) rfl ?_
  refine go_iconst dX10_mayHave_2 ?_
  refine go_istore_n [1, 2, 3, 0] (L' := [(0, vR E 107), (1, vI v1), (2, vI 0), (3, vI 0)]) dX10_mayHave_3 rfl (by decide) rfl ?_
  exact h
theorem s_X10_mayHave_4 {l : Launch} {E : Ev} {Q : Int → Sh → Dm → Prop} {G : Sh} {D : Dm} (hL : Lay G) {v1 v2 v3 : Int}  (h : ((-2147483648 ≤ v3 ∧ v3 < 2147483648)) ∧ (((D 108 0) ≤ v3 → Q v2 G D) ∧ (v3 < (D 108 0) → ((0 ≤ ((8 + (5 * v3)) + 4) ∧ ((8 + (5 * v3)) + 4) < 500)) ∧ (((D 108 ((8 + (5 * v3)) + 4)) = (-1) → KX10_mayHave l E Q 4 [(0, vR E 107), (1, vI v1), (2, vI (iO v2 (iSl 1 v3))), (3, vI (v3 + 1))] G D) ∧ ((D 108 ((8 + (5 * v3)) + 4)) ≠ (-1) → ((-2147483648 ≤ v1 ∧ v1 < 2147483648)) ∧ (((D 108 ((8 + (5 * v3)) + 4)) ≠ v1 → KX10_mayHave l E Q 4 [(0, vR E 107), (1, vI v1), (2, vI (iO v2 0)), (3, vI (v3 + 1))] G D) ∧ ((D 108 ((8 + (5 * v3)) + 4)) = v1 → KX10_mayHave l E Q 4 [(0, vR E 107), (1, vI v1), (2, vI (iO v2 (iSl 1 v3))), (3, vI (v3 + 1))] G D))))))) : KX10_mayHave l E Q 4 [(0, vR E 107), (1, vI v1), (2, vI v2), (3, vI v3)] G D := by
  obtain ⟨s1, h⟩ := h
  refine go_iload_n 3 dX10_mayHave_4 rfl rfl ?_
  refine go_aload_n 0 dX10_mayHave_5 rfl rfl ?_
  refine go_getR 0 f_X10_7 rfl (hL.1 107 _ rfl) (hL.2.1 107 0 _ rfl (by decide)) dX10_mayHave_6 ?_
  refine go_iconst dX10_mayHave_9 ?_
  refine go_iaload (hL.1 108 _ rfl) (b := 500) rfl (by decide) (by decide) dX10_mayHave_10 ?_
  refine go_rngI (c := 108) (i := 0) (hL.1 108 _ rfl) rfl (fun (q2 : -2147483648 ≤ (D 108 0) ∧ (D 108 0) < 2147483648) => ?_)
  refine go_icmp_ge 50 dX10_mayHave_11 (by decide) s1 q2 (fun c3 => ?_) (fun c3 => ?_)
  · have h := h.1 c3
    refine go_iload_n 2 dX10_mayHave_50 rfl rfl ?_
    exact go_ireturn (Nat.le_refl _) (Nat.le_refl _) rfl dX10_mayHave_51 h
  · have h := h.2 c3
    obtain ⟨s5, h⟩ := h
    refine go_iload_n 2 dX10_mayHave_14 rfl rfl ?_
    refine go_aload_n 0 dX10_mayHave_15 rfl rfl ?_
    refine go_iload_n 3 dX10_mayHave_16 rfl rfl ?_
    refine go_iconst dX10_mayHave_17 ?_
    refine go_vIp (M := MX10_ofStrip) [vI v3, vI 4] [vI v2] mv_X10_210 (hL.1 107 _ rfl) rfl (by decide) ⟨Nat.le_of_ble_eq_true rfl, Nat.le_of_ble_eq_true rfl⟩ ⟨Nat.le_refl _, Nat.le_refl _⟩ rfl rfl (Nat.le_of_ble_eq_true rfl) dX10_mayHave_18 (p_X10_ofStrip hL s5) ?_
    refine go_iconst dX10_mayHave_21 ?_
    refine go_rngI (c := 108) (i := ((8 + (5 * v3)) + 4)) (hL.1 108 _ rfl) rfl (fun (q7 : -2147483648 ≤ (D 108 ((8 + (5 * v3)) + 4)) ∧ (D 108 ((8 + (5 * v3)) + 4)) < 2147483648) => ?_)
    refine go_icmp_eq 35 dX10_mayHave_22 (by decide) q7 (by decide) (fun c8 => ?_) (fun c8 => ?_)
    · have h := h.1 c8
      refine go_iconst dX10_mayHave_35 ?_
      refine go_iload_n 3 dX10_mayHave_36 rfl rfl ?_
      refine go_ishl dX10_mayHave_37 ?_
      refine go_goto 42 dX10_mayHave_38 (by decide) ?_
      refine go_ior dX10_mayHave_42 ?_
      refine go_istore_n [1, 2, 0, 3] (L' := [(0, vR E 107), (1, vI v1), (2, vI (iO v2 (iSl 1 v3))), (3, vI v3)]) dX10_mayHave_43 rfl (by decide) rfl ?_
      refine go_iinc 3 [1, 2, 3, 0] (L' := [(0, vR E 107), (1, vI v1), (2, vI (iO v2 (iSl 1 v3))), (3, vI (v3 + 1))]) dX10_mayHave_44 (by decide) rfl rfl ?_
      refine go_goto 4 dX10_mayHave_47 (by decide) ?_
      exact h
    · have h := h.2 c8
      obtain ⟨s10, h⟩ := h
      refine go_aload_n 0 dX10_mayHave_25 rfl rfl ?_
      refine go_iload_n 3 dX10_mayHave_26 rfl rfl ?_
      refine go_iconst dX10_mayHave_27 ?_
      refine go_vIp (M := MX10_ofStrip) [vI v3, vI 4] [vI v2] mv_X10_210 (hL.1 107 _ rfl) rfl (by decide) ⟨Nat.le_of_ble_eq_true rfl, Nat.le_of_ble_eq_true rfl⟩ ⟨Nat.le_refl _, Nat.le_refl _⟩ rfl rfl (Nat.le_of_ble_eq_true rfl) dX10_mayHave_28 (p_X10_ofStrip hL s5) ?_
      refine go_iload_n 1 dX10_mayHave_31 rfl rfl ?_
      refine go_icmp_ne 41 dX10_mayHave_32 (by decide) q7 s10 (fun c12 => ?_) (fun c12 => ?_)
      · have h := h.1 c12
        refine go_iconst dX10_mayHave_41 ?_
        refine go_ior dX10_mayHave_42 ?_
        refine go_istore_n [1, 2, 0, 3] (L' := [(0, vR E 107), (1, vI v1), (2, vI (iO v2 0)), (3, vI v3)]) dX10_mayHave_43 rfl (by decide) rfl ?_
        refine go_iinc 3 [1, 2, 3, 0] (L' := [(0, vR E 107), (1, vI v1), (2, vI (iO v2 0)), (3, vI (v3 + 1))]) dX10_mayHave_44 (by decide) rfl rfl ?_
        refine go_goto 4 dX10_mayHave_47 (by decide) ?_
        exact h
      · have h := h.2 c12
        refine go_iconst dX10_mayHave_35 ?_
        refine go_iload_n 3 dX10_mayHave_36 rfl rfl ?_
        refine go_ishl dX10_mayHave_37 ?_
        refine go_goto 42 dX10_mayHave_38 (by decide) ?_
        refine go_ior dX10_mayHave_42 ?_
        refine go_istore_n [1, 2, 0, 3] (L' := [(0, vR E 107), (1, vI v1), (2, vI (iO v2 (iSl 1 v3))), (3, vI v3)]) dX10_mayHave_43 rfl (by decide) rfl ?_
        refine go_iinc 3 [1, 2, 3, 0] (L' := [(0, vR E 107), (1, vI v1), (2, vI (iO v2 (iSl 1 v3))), (3, vI (v3 + 1))]) dX10_mayHave_44 (by decide) rfl rfl ?_
        refine go_goto 4 dX10_mayHave_47 (by decide) ?_
        exact h
theorem s_X10_bestOf {l : Launch} {E : Ev} {Q : Int → Sh → Dm → Prop} {G : Sh} {D : Dm} (hL : Lay G) {v1 v2 : Int}  (h : C0 l E MX10_mayHave 0 [vR E 107, vI v1] G D (fun r2 D2 => KX10_bestOf l E Q 12 [(0, vR E 107), (1, vI v1), (2, vI v2), (3, vI r2), (4, vI (-1)), (5, vI 1)] G D2)) : Ct l E MX10_bestOf 0 0 0 [vR E 107, vI v1, vI v2] G D Q := by
  refine Ct.of (by decide) (Nat.le_of_ble_eq_true rfl) ?_
  show KX10_bestOf l E Q 0 [(0, vR E 107), (1, vI v1), (2, vI v2)] G D
  refine go_aload_n 0 dX10_bestOf_0 rfl rfl ?_
  refine go_iload_n 1 dX10_bestOf_1 rfl rfl ?_
  refine go_vI (M := MX10_mayHave) [vI v1] [] mv_X10_299 (hL.1 107 _ rfl) rfl (by decide) ⟨Nat.le_of_ble_eq_true rfl, Nat.le_of_ble_eq_true rfl⟩ ⟨Nat.le_refl _, Nat.le_refl _⟩ rfl rfl (Nat.le_of_ble_eq_true rfl) dX10_bestOf_2 h (fun r2 D2 h => ?_)
  refine go_istore_n [1, 2, 3, 0] (L' := [(0, vR E 107), (1, vI v1), (2, vI v2), (3, vI r2)]) dX10_bestOf_5 rfl (by decide) rfl ?_
  refine go_iconst dX10_bestOf_6 ?_
  refine go_istore [1, 2, 3, 4, 0] (L' := [(0, vR E 107), (1, vI v1), (2, vI v2), (3, vI r2), (4, vI (-1))]) dX10_bestOf_7 (by decide) rfl ?_
  refine go_iconst dX10_bestOf_9 ?_
  refine go_istore [1, 2, 3, 4, 5, 0] (L' := [(0, vR E 107), (1, vI v1), (2, vI v2), (3, vI r2), (4, vI (-1)), (5, vI 1)]) dX10_bestOf_10 (by decide) rfl ?_
  exact h
theorem s_X10_bestOf_12 {l : Launch} {E : Ev} {Q : Int → Sh → Dm → Prop} {G : Sh} {D : Dm} (hL : Lay G) {v1 v2 v3 v4 v5 : Int}  (h : ((-2147483648 ≤ v5 ∧ v5 < 2147483648)) ∧ (((iSl 1 (D 108 0)) ≤ v5 → Q v4 G D) ∧ (v5 < (iSl 1 (D 108 0)) → (((iA v5 (iX v3 (-1))) ≠ 0 → KX10_bestOf l E Q 12 [(0, vR E 107), (1, vI v1), (2, vI v2), (3, vI v3), (4, vI v4), (5, vI (v5 + 1))] G D) ∧ ((iA v5 (iX v3 (-1))) = 0 → C0 l E MX10_bits 0 [vI v5] G D (fun r8 D8 => ((-2147483648 ≤ r8 ∧ r8 < 2147483648) ∧ (-2147483648 ≤ v2 ∧ v2 < 2147483648)) ∧ ((r8 = v2 → C0 l E MX10_worthOf 1 [vR E 107, vI v1, vI v5] G D8 (fun r12 D12 => ((-2147483648 ≤ v4 ∧ v4 < 2147483648)) ∧ ((v4 = (-1) → ((-9223372036854775808 ≤ r12 ∧ r12 < 9223372036854775808)) ∧ KX10_bestOf l E Q 12 [(0, vR E 107), (1, vI v1), (2, vI v2), (3, vI v3), (4, vI v5), (5, vI (v5 + 1))] G (upd2 D12 107 23 r12)) ∧ (v4 ≠ (-1) → ((-9223372036854775808 ≤ r12 ∧ r12 < 9223372036854775808)) ∧ (((D12 107 23) < r12 → KX10_bestOf l E Q 12 [(0, vR E 107), (1, vI v1), (2, vI v2), (3, vI v3), (4, vI v5), (5, vI (v5 + 1))] G (upd2 D12 107 23 r12)) ∧ (r12 ≤ (D12 107 23) → KX10_bestOf l E Q 12 [(0, vR E 107), (1, vI v1), (2, vI v2), (3, vI v3), (4, vI v4), (5, vI (v5 + 1))] G D12)))))) ∧ (r8 ≠ v2 → KX10_bestOf l E Q 12 [(0, vR E 107), (1, vI v1), (2, vI v2), (3, vI v3), (4, vI v4), (5, vI (v5 + 1))] G D8)))))))) : KX10_bestOf l E Q 12 [(0, vR E 107), (1, vI v1), (2, vI v2), (3, vI v3), (4, vI v4), (5, vI v5)] G D := by
  obtain ⟨s1, h⟩ := h
  refine go_iload 5 dX10_bestOf_12 rfl ?_
  refine go_iconst dX10_bestOf_14 ?_
  refine go_aload_n 0 dX10_bestOf_15 rfl rfl ?_
  refine go_getR 0 f_X10_7 rfl (hL.1 107 _ rfl) (hL.2.1 107 0 _ rfl (by decide)) dX10_bestOf_16 ?_
  refine go_iconst dX10_bestOf_19 ?_
  refine go_iaload (hL.1 108 _ rfl) (b := 500) rfl (by decide) (by decide) dX10_bestOf_20 ?_
  refine go_ishl dX10_bestOf_21 ?_
  refine go_icmp_ge 90 dX10_bestOf_22 (by decide) s1 (r32 _) (fun c2 => ?_) (fun c2 => ?_)
  · have h := h.1 c2
    refine go_iload 4 dX10_bestOf_90 rfl ?_
    exact go_ireturn (Nat.le_refl _) (Nat.le_refl _) rfl dX10_bestOf_92 h
  · have h := h.2 c2
    refine go_iload 5 dX10_bestOf_25 rfl ?_
    refine go_iload_n 3 dX10_bestOf_27 rfl rfl ?_
    refine go_iconst dX10_bestOf_28 ?_
    refine go_ixor dX10_bestOf_29 ?_
    refine go_iand dX10_bestOf_30 ?_
    refine go_if_ne 84 dX10_bestOf_31 (by decide) (r32 _) (fun c5 => ?_) (fun c5 => ?_)
    · have h := h.1 c5
      refine go_iinc 5 [1, 2, 3, 4, 5, 0] (L' := [(0, vR E 107), (1, vI v1), (2, vI v2), (3, vI v3), (4, vI v4), (5, vI (v5 + 1))]) dX10_bestOf_84 (by decide) rfl rfl ?_
      refine go_goto 12 dX10_bestOf_87 (by decide) ?_
      exact h
    · have h := h.2 c5
      refine go_iload 5 dX10_bestOf_34 rfl ?_
      refine go_sI (M := MX10_bits) [vI v5] [] ms_X10_302 ⟨Nat.le_of_ble_eq_true rfl, Nat.le_of_ble_eq_true rfl⟩ ⟨Nat.le_refl _, Nat.le_refl _⟩ rfl rfl (Nat.le_of_ble_eq_true rfl) dX10_bestOf_36 h (fun r8 D8 h => ?_)
      obtain ⟨s9, h⟩ := h
      refine go_iload_n 2 dX10_bestOf_39 rfl rfl ?_
      refine go_icmp_eq 46 dX10_bestOf_40 (by decide) s9.1 s9.2 (fun c10 => ?_) (fun c10 => ?_)
      · have h := h.1 c10
        refine go_aload_n 0 dX10_bestOf_46 rfl rfl ?_
        refine go_iload_n 1 dX10_bestOf_47 rfl rfl ?_
        refine go_iload 5 dX10_bestOf_48 rfl ?_
        refine go_vJ (M := MX10_worthOf) [vI v1, vI v5] [] mv_X10_295 (hL.1 107 _ rfl) rfl (by decide) ⟨Nat.le_of_ble_eq_true rfl, Nat.le_of_ble_eq_true rfl⟩ ⟨Nat.le_refl _, Nat.le_refl _⟩ rfl rfl (Nat.le_of_ble_eq_true rfl) dX10_bestOf_50 h (fun r12 D12 h => ?_)
        obtain ⟨s13, h⟩ := h
        refine go_lstore [1, 2, 3, 4, 5, 6, 0] (L' := [(0, vR E 107), (1, vI v1), (2, vI v2), (3, vI v3), (4, vI v4), (5, vI v5), (6, vJ r12)]) dX10_bestOf_53 (by decide) rfl ?_
        refine go_iload 4 dX10_bestOf_55 rfl ?_
        refine go_iconst dX10_bestOf_57 ?_
        refine go_icmp_eq 74 dX10_bestOf_58 (by decide) s13 (by decide) (fun c14 => ?_) (fun c14 => ?_)
        · have h := h.1 c14
          obtain ⟨s15, h⟩ := h
          refine go_iload 5 dX10_bestOf_74 rfl ?_
          refine go_istore [1, 2, 3, 4, 0, 5, 6] (L' := [(0, vR E 107), (1, vI v1), (2, vI v2), (3, vI v3), (4, vI v5), (5, vI v5), (6, vJ r12)]) dX10_bestOf_76 (by decide) rfl ?_
          refine go_aload_n 0 dX10_bestOf_78 rfl rfl ?_
          refine go_lload 6 dX10_bestOf_79 rfl ?_
          refine go_putJ 23 (i := 23) s15 f_X10_305 rfl (hL.1 107 _ rfl) dX10_bestOf_81 ?_
          refine go_iinc 5 [1, 2, 3, 4, 5, 0, 6] (L' := [(0, vR E 107), (1, vI v1), (2, vI v2), (3, vI v3), (4, vI v5), (5, vI (v5 + 1)), (6, vJ r12)]) dX10_bestOf_84 (by decide) rfl rfl ?_
          refine go_goto 12 dX10_bestOf_87 (by decide) ?_
          refine go_sub [0, 1, 2, 3, 4, 5] (L' := [(0, vR E 107), (1, vI v1), (2, vI v2), (3, vI v3), (4, vI v5), (5, vI (v5 + 1))]) rfl ?_
          exact h
        · have h := h.2 c14
          obtain ⟨s16, h⟩ := h
          refine go_lload 6 dX10_bestOf_61 rfl ?_
          refine go_aload_n 0 dX10_bestOf_63 rfl rfl ?_
          refine go_getJ 23 (i := 23) f_X10_305 rfl (hL.1 107 _ rfl) dX10_bestOf_64 ?_
          refine go_rngJ (c := 107) (i := 23) (hL.1 107 _ rfl) rfl (fun (q17 : -9223372036854775808 ≤ (D12 107 23) ∧ (D12 107 23) < 9223372036854775808) => ?_)
          refine go_lcmp_gt 74 dX10_bestOf_67 dX10_bestOf_68 (by decide) s16 q17 (fun c18 => ?_) (fun c18 => ?_)
          · have h := h.1 c18
            refine go_iload 5 dX10_bestOf_74 rfl ?_
            refine go_istore [1, 2, 3, 4, 0, 5, 6] (L' := [(0, vR E 107), (1, vI v1), (2, vI v2), (3, vI v3), (4, vI v5), (5, vI v5), (6, vJ r12)]) dX10_bestOf_76 (by decide) rfl ?_
            refine go_aload_n 0 dX10_bestOf_78 rfl rfl ?_
            refine go_lload 6 dX10_bestOf_79 rfl ?_
            refine go_putJ 23 (i := 23) s16 f_X10_305 rfl (hL.1 107 _ rfl) dX10_bestOf_81 ?_
            refine go_iinc 5 [1, 2, 3, 4, 5, 0, 6] (L' := [(0, vR E 107), (1, vI v1), (2, vI v2), (3, vI v3), (4, vI v5), (5, vI (v5 + 1)), (6, vJ r12)]) dX10_bestOf_84 (by decide) rfl rfl ?_
            refine go_goto 12 dX10_bestOf_87 (by decide) ?_
            refine go_sub [0, 1, 2, 3, 4, 5] (L' := [(0, vR E 107), (1, vI v1), (2, vI v2), (3, vI v3), (4, vI v5), (5, vI (v5 + 1))]) rfl ?_
            exact h
          · have h := h.2 c18
            refine go_goto 84 dX10_bestOf_71 (by decide) ?_
            refine go_iinc 5 [1, 2, 3, 4, 5, 0, 6] (L' := [(0, vR E 107), (1, vI v1), (2, vI v2), (3, vI v3), (4, vI v4), (5, vI (v5 + 1)), (6, vJ r12)]) dX10_bestOf_84 (by decide) rfl rfl ?_
            refine go_goto 12 dX10_bestOf_87 (by decide) ?_
            refine go_sub [0, 1, 2, 3, 4, 5] (L' := [(0, vR E 107), (1, vI v1), (2, vI v2), (3, vI v3), (4, vI v4), (5, vI (v5 + 1))]) rfl ?_
            exact h
      · have h := h.2 c10
        refine go_goto 84 dX10_bestOf_43 (by decide) ?_
        refine go_iinc 5 [1, 2, 3, 4, 5, 0] (L' := [(0, vR E 107), (1, vI v1), (2, vI v2), (3, vI v3), (4, vI v4), (5, vI (v5 + 1))]) dX10_bestOf_84 (by decide) rfl rfl ?_
        refine go_goto 12 dX10_bestOf_87 (by decide) ?_
        exact h
theorem s_X10_best {l : Launch} {E : Ev} {Q : Int → Sh → Dm → Prop} {G : Sh} {D : Dm} (hL : Lay G) {v1 v2 : Int}  (h : ((-2147483648 ≤ v1 ∧ v1 < 2147483648)) ∧ ((¬ ((0 ≤ v1) ∧ (v1 < (D 108 2))) → Q (-1) G (upd2 D 107 1 1)) ∧ (((0 ≤ v1) ∧ (v1 < (D 108 2))) → ((-2147483648 ≤ v2 ∧ v2 < 2147483648)) ∧ ((v2 < 1 → Q (-1) G (upd2 D 107 1 1)) ∧ (1 ≤ v2 → ((v2 ≤ 6 → C0 l E MX10_bestOf 0 [vR E 107, vI v1, vI v2] G D (fun r13 D13 => ((-2147483648 ≤ r13 ∧ r13 < 2147483648)) ∧ ((r13 ≠ (-1) → C0 l E MX10_allLots 1 [vR E 107] G D13 (fun r17 D17 => C0 l E MX10_tells 0 [vR E 107, vJ (D13 107 23), vJ r17] G D17 (fun r19 D19 => Q r13 G (upd2 D19 107 1 0)))) ∧ (r13 = (-1) → Q (-1) G (upd2 D13 107 1 6))))) ∧ (6 < v2 → Q (-1) G (upd2 D 107 1 1)))))))) : Ct l E MX10_best 0 0 0 [vR E 107, vI v1, vI v2] G D Q := by
  refine Ct.of (by decide) (Nat.le_of_ble_eq_true rfl) ?_
  show KX10_best l E Q 0 [(0, vR E 107), (1, vI v1), (2, vI v2)] G D
  obtain ⟨s1, h⟩ := h
  refine go_aload_n 0 dX10_best_0 rfl rfl ?_
  refine go_iload_n 1 dX10_best_1 rfl rfl ?_
  refine go_vIp (M := MX10_isFamily) [vI v1] [] mv_X10_223 (hL.1 107 _ rfl) rfl (by decide) ⟨Nat.le_of_ble_eq_true rfl, Nat.le_of_ble_eq_true rfl⟩ ⟨Nat.le_refl _, Nat.le_refl _⟩ rfl rfl (Nat.le_of_ble_eq_true rfl) dX10_best_2 (p_X10_isFamily hL s1) ?_
  refine go_ifb_eq 19 dX10_best_5 (by decide) (fun c3 => ?_) (fun c3 => ?_)
  · have h := h.1 c3
    refine go_aload_n 0 dX10_best_19 rfl rfl ?_
    refine go_iconst dX10_best_20 ?_
    refine go_vIp (M := MX10_refuse) [vI 1] [] mv_X10_194 (hL.1 107 _ rfl) rfl (by decide) ⟨Nat.le_of_ble_eq_true rfl, Nat.le_of_ble_eq_true rfl⟩ ⟨Nat.le_refl _, Nat.le_refl _⟩ rfl rfl (Nat.le_of_ble_eq_true rfl) dX10_best_21 (p_X10_refuse hL (by decide)) ?_
    exact go_ireturn (Nat.le_refl _) (Nat.le_refl _) rfl dX10_best_24 h
  · have h := h.2 c3
    obtain ⟨s6, h⟩ := h
    refine go_iload_n 2 dX10_best_8 rfl rfl ?_
    refine go_iconst dX10_best_9 ?_
    refine go_icmp_lt 19 dX10_best_10 (by decide) s6 (by decide) (fun c7 => ?_) (fun c7 => ?_)
    · have h := h.1 c7
      refine go_aload_n 0 dX10_best_19 rfl rfl ?_
      refine go_iconst dX10_best_20 ?_
      refine go_vIp (M := MX10_refuse) [vI 1] [] mv_X10_194 (hL.1 107 _ rfl) rfl (by decide) ⟨Nat.le_of_ble_eq_true rfl, Nat.le_of_ble_eq_true rfl⟩ ⟨Nat.le_refl _, Nat.le_refl _⟩ rfl rfl (Nat.le_of_ble_eq_true rfl) dX10_best_21 (p_X10_refuse hL (by decide)) ?_
      exact go_ireturn (Nat.le_refl _) (Nat.le_refl _) rfl dX10_best_24 h
    · have h := h.2 c7
      refine go_iload_n 2 dX10_best_13 rfl rfl ?_
      refine go_bipush dX10_best_14 (by decide) ?_
      refine go_icmp_le 25 dX10_best_16 (by decide) s6 (by decide) (fun c11 => ?_) (fun c11 => ?_)
      · have h := h.1 c11
        refine go_aload_n 0 dX10_best_25 rfl rfl ?_
        refine go_iload_n 1 dX10_best_26 rfl rfl ?_
        refine go_iload_n 2 dX10_best_27 rfl rfl ?_
        refine go_vI (M := MX10_bestOf) [vI v1, vI v2] [] mv_X10_308 (hL.1 107 _ rfl) rfl (by decide) ⟨Nat.le_of_ble_eq_true rfl, Nat.le_of_ble_eq_true rfl⟩ ⟨Nat.le_refl _, Nat.le_refl _⟩ rfl rfl (Nat.le_of_ble_eq_true rfl) dX10_best_28 h (fun r13 D13 h => ?_)
        obtain ⟨s14, h⟩ := h
        refine go_istore_n [1, 2, 3, 0] (L' := [(0, vR E 107), (1, vI v1), (2, vI v2), (3, vI r13)]) dX10_best_31 rfl (by decide) rfl ?_
        refine go_iload_n 3 dX10_best_32 rfl rfl ?_
        refine go_iconst dX10_best_33 ?_
        refine go_icmp_ne 44 dX10_best_34 (by decide) s14 (by decide) (fun c15 => ?_) (fun c15 => ?_)
        · have h := h.1 c15
          refine go_aload_n 0 dX10_best_44 rfl rfl ?_
          refine go_aload_n 0 dX10_best_45 rfl rfl ?_
          refine go_getJ 23 (i := 23) f_X10_305 rfl (hL.1 107 _ rfl) dX10_best_46 ?_
          refine go_aload_n 0 dX10_best_49 rfl rfl ?_
          refine go_vJ (M := MX10_allLots) [] [vJ (D13 107 23), vR E 107] mv_X10_288 (hL.1 107 _ rfl) rfl (by decide) ⟨Nat.le_of_ble_eq_true rfl, Nat.le_of_ble_eq_true rfl⟩ ⟨Nat.le_refl _, Nat.le_refl _⟩ rfl rfl (Nat.le_of_ble_eq_true rfl) dX10_best_50 h (fun r17 D17 h => ?_)
          refine go_vI (M := MX10_tells) [vJ (D13 107 23), vJ r17] [] mv_X10_291 (hL.1 107 _ rfl) rfl (by decide) ⟨Nat.le_of_ble_eq_true rfl, Nat.le_of_ble_eq_true rfl⟩ ⟨Nat.le_refl _, Nat.le_refl _⟩ rfl rfl (Nat.le_of_ble_eq_true rfl) dX10_best_53 h (fun r19 D19 h => ?_)
          refine go_pop rfl dX10_best_56 ?_
          refine go_aload_n 0 dX10_best_57 rfl rfl ?_
          refine go_iload_n 3 dX10_best_58 rfl rfl ?_
          refine go_vIp (M := MX10_gives) [vI r13] [] mv_X10_204 (hL.1 107 _ rfl) rfl (by decide) ⟨Nat.le_of_ble_eq_true rfl, Nat.le_of_ble_eq_true rfl⟩ ⟨Nat.le_refl _, Nat.le_refl _⟩ rfl rfl (Nat.le_of_ble_eq_true rfl) dX10_best_59 (p_X10_gives hL) ?_
          exact go_ireturn (Nat.le_refl _) (Nat.le_refl _) rfl dX10_best_62 h
        · have h := h.2 c15
          refine go_aload_n 0 dX10_best_37 rfl rfl ?_
          refine go_bipush dX10_best_38 (by decide) ?_
          refine go_vIp (M := MX10_refuse) [vI 6] [] mv_X10_194 (hL.1 107 _ rfl) rfl (by decide) ⟨Nat.le_of_ble_eq_true rfl, Nat.le_of_ble_eq_true rfl⟩ ⟨Nat.le_refl _, Nat.le_refl _⟩ rfl rfl (Nat.le_of_ble_eq_true rfl) dX10_best_40 (p_X10_refuse hL (by decide)) ?_
          exact go_ireturn (Nat.le_refl _) (Nat.le_refl _) rfl dX10_best_43 h
      · have h := h.2 c11
        refine go_aload_n 0 dX10_best_19 rfl rfl ?_
        refine go_iconst dX10_best_20 ?_
        refine go_vIp (M := MX10_refuse) [vI 1] [] mv_X10_194 (hL.1 107 _ rfl) rfl (by decide) ⟨Nat.le_of_ble_eq_true rfl, Nat.le_of_ble_eq_true rfl⟩ ⟨Nat.le_refl _, Nat.le_refl _⟩ rfl rfl (Nat.le_of_ble_eq_true rfl) dX10_best_21 (p_X10_refuse hL (by decide)) ?_
        exact go_ireturn (Nat.le_refl _) (Nat.le_refl _) rfl dX10_best_24 h
theorem s_X10_climb {l : Launch} {E : Ev} {Q : Int → Sh → Dm → Prop} {G : Sh} {D : Dm} (hL : Lay G) {v1 : Int}  (h : ((-2147483648 ≤ v1 ∧ v1 < 2147483648)) ∧ ((((0 ≤ v1) ∧ (v1 < (D 108 2))) → C0 l E MX10_mayHave 0 [vR E 107, vI v1] G D (fun r5 D5 => C0 l E MX10_held 0 [vR E 107, vI v1] G D5 (fun r7 D7 => C0 l E MX10_worthOf 1 [vR E 107, vI v1, vI r7] G D7 (fun r9 D9 => KX10_climb l E Q 40 [(0, vR E 107), (1, vI v1), (2, vI r5), (3, vI r7), (4, vJ r9), (6, vI 0), (7, vI 1)] G D9)))) ∧ (¬ ((0 ≤ v1) ∧ (v1 < (D 108 2))) → Q (-1) G (upd2 D 107 1 1)))) : Ct l E MX10_climb 0 0 0 [vR E 107, vI v1] G D Q := by
  refine Ct.of (by decide) (Nat.le_of_ble_eq_true rfl) ?_
  show KX10_climb l E Q 0 [(0, vR E 107), (1, vI v1)] G D
  obtain ⟨s1, h⟩ := h
  refine go_aload_n 0 dX10_climb_0 rfl rfl ?_
  refine go_iload_n 1 dX10_climb_1 rfl rfl ?_
  refine go_vIp (M := MX10_isFamily) [vI v1] [] mv_X10_223 (hL.1 107 _ rfl) rfl (by decide) ⟨Nat.le_of_ble_eq_true rfl, Nat.le_of_ble_eq_true rfl⟩ ⟨Nat.le_refl _, Nat.le_refl _⟩ rfl rfl (Nat.le_of_ble_eq_true rfl) dX10_climb_2 (p_X10_isFamily hL s1) ?_
  refine go_ifb_ne 14 dX10_climb_5 (by decide) (fun c3 => ?_) (fun c3 => ?_)
  · have h := h.1 c3
    refine go_aload_n 0 dX10_climb_14 rfl rfl ?_
    refine go_iload_n 1 dX10_climb_15 rfl rfl ?_
    refine go_vI (M := MX10_mayHave) [vI v1] [] mv_X10_299 (hL.1 107 _ rfl) rfl (by decide) ⟨Nat.le_of_ble_eq_true rfl, Nat.le_of_ble_eq_true rfl⟩ ⟨Nat.le_refl _, Nat.le_refl _⟩ rfl rfl (Nat.le_of_ble_eq_true rfl) dX10_climb_16 h (fun r5 D5 h => ?_)
    refine go_istore_n [1, 2, 0] (L' := [(0, vR E 107), (1, vI v1), (2, vI r5)]) dX10_climb_19 rfl (by decide) rfl ?_
    refine go_aload_n 0 dX10_climb_20 rfl rfl ?_
    refine go_iload_n 1 dX10_climb_21 rfl rfl ?_
    refine go_vI (M := MX10_held) [vI v1] [] mv_X10_229 (hL.1 107 _ rfl) rfl (by decide) ⟨Nat.le_of_ble_eq_true rfl, Nat.le_of_ble_eq_true rfl⟩ ⟨Nat.le_refl _, Nat.le_refl _⟩ rfl rfl (Nat.le_of_ble_eq_true rfl) dX10_climb_22 h (fun r7 D7 h => ?_)
    refine go_istore_n [1, 2, 3, 0] (L' := [(0, vR E 107), (1, vI v1), (2, vI r5), (3, vI r7)]) dX10_climb_25 rfl (by decide) rfl ?_
    refine go_aload_n 0 dX10_climb_26 rfl rfl ?_
    refine go_iload_n 1 dX10_climb_27 rfl rfl ?_
    refine go_iload_n 3 dX10_climb_28 rfl rfl ?_
    refine go_vJ (M := MX10_worthOf) [vI v1, vI r7] [] mv_X10_295 (hL.1 107 _ rfl) rfl (by decide) ⟨Nat.le_of_ble_eq_true rfl, Nat.le_of_ble_eq_true rfl⟩ ⟨Nat.le_refl _, Nat.le_refl _⟩ rfl rfl (Nat.le_of_ble_eq_true rfl) dX10_climb_29 h (fun r9 D9 h => ?_)
    refine go_lstore [1, 2, 3, 4, 0] (L' := [(0, vR E 107), (1, vI v1), (2, vI r5), (3, vI r7), (4, vJ r9)]) dX10_climb_32 (by decide) rfl ?_
    refine go_iconst dX10_climb_34 ?_
    refine go_istore [1, 2, 3, 4, 5, 0] (L' := [(0, vR E 107), (1, vI v1), (2, vI r5), (3, vI r7), (4, vJ r9), (6, vI 0)]) dX10_climb_35 (by decide) rfl ?_
    refine go_iconst dX10_climb_37 ?_
    refine go_istore [1, 2, 3, 4, 5, 6, 0] (L' := [(0, vR E 107), (1, vI v1), (2, vI r5), (3, vI r7), (4, vJ r9), (6, vI 0), (7, vI 1)]) dX10_climb_38 (by decide) rfl ?_
    exact h
  · have h := h.2 c3
    refine go_aload_n 0 dX10_climb_8 rfl rfl ?_
    refine go_iconst dX10_climb_9 ?_
    refine go_vIp (M := MX10_refuse) [vI 1] [] mv_X10_194 (hL.1 107 _ rfl) rfl (by decide) ⟨Nat.le_of_ble_eq_true rfl, Nat.le_of_ble_eq_true rfl⟩ ⟨Nat.le_refl _, Nat.le_refl _⟩ rfl rfl (Nat.le_of_ble_eq_true rfl) dX10_climb_10 (p_X10_refuse hL (by decide)) ?_
    exact go_ireturn (Nat.le_refl _) (Nat.le_refl _) rfl dX10_climb_13 h
theorem s_X10_climb_40 {l : Launch} {E : Ev} {Q : Int → Sh → Dm → Prop} {G : Sh} {D : Dm} (hL : Lay G) {v1 v2 v3 v4 v6 v7 : Int}  (h : ((-2147483648 ≤ v7 ∧ v7 < 2147483648)) ∧ ((v7 = 0 → ((-2147483648 ≤ v6 ∧ v6 < 2147483648)) ∧ C0 l E MX10_allLots 1 [vR E 107] G (upd2 D 107 24 v6) (fun r4 D4 => C0 l E MX10_tells 0 [vR E 107, vJ v4, vJ r4] G D4 (fun r6 D6 => Q v3 G (upd2 D6 107 1 0)))) ∧ (v7 ≠ 0 → KX10_climb l E Q 51 [(0, vR E 107), (1, vI v1), (2, vI v2), (3, vI v3), (4, vJ v4), (6, vI v6), (7, vI v7), (8, vI (-1)), (9, vI 0)] G D))) : KX10_climb l E Q 40 [(0, vR E 107), (1, vI v1), (2, vI v2), (3, vI v3), (4, vJ v4), (6, vI v6), (7, vI v7)] G D := by
  obtain ⟨s1, h⟩ := h
  refine go_iload 6 dX10_climb_40 rfl ?_
  refine go_if_eq 179 dX10_climb_42 (by decide) s1 (fun c2 => ?_) (fun c2 => ?_)
  · have h := h.1 c2
    obtain ⟨s3, h⟩ := h
    refine go_aload_n 0 dX10_climb_179 rfl rfl ?_
    refine go_iload 5 dX10_climb_180 rfl ?_
    refine go_putI 24 (i := 24) s3 f_X10_50 rfl (hL.1 107 _ rfl) dX10_climb_182 ?_
    refine go_aload_n 0 dX10_climb_185 rfl rfl ?_
    refine go_lload 4 dX10_climb_186 rfl ?_
    refine go_aload_n 0 dX10_climb_188 rfl rfl ?_
    refine go_vJ (M := MX10_allLots) [] [vJ v4, vR E 107] mv_X10_288 (hL.1 107 _ rfl) rfl (by decide) ⟨Nat.le_of_ble_eq_true rfl, Nat.le_of_ble_eq_true rfl⟩ ⟨Nat.le_refl _, Nat.le_refl _⟩ rfl rfl (Nat.le_of_ble_eq_true rfl) dX10_climb_189 h (fun r4 D4 h => ?_)
    refine go_vI (M := MX10_tells) [vJ v4, vJ r4] [] mv_X10_291 (hL.1 107 _ rfl) rfl (by decide) ⟨Nat.le_of_ble_eq_true rfl, Nat.le_of_ble_eq_true rfl⟩ ⟨Nat.le_refl _, Nat.le_refl _⟩ rfl rfl (Nat.le_of_ble_eq_true rfl) dX10_climb_192 h (fun r6 D6 h => ?_)
    refine go_pop rfl dX10_climb_195 ?_
    refine go_aload_n 0 dX10_climb_196 rfl rfl ?_
    refine go_iload_n 3 dX10_climb_197 rfl rfl ?_
    refine go_vIp (M := MX10_gives) [vI v3] [] mv_X10_204 (hL.1 107 _ rfl) rfl (by decide) ⟨Nat.le_of_ble_eq_true rfl, Nat.le_of_ble_eq_true rfl⟩ ⟨Nat.le_refl _, Nat.le_refl _⟩ rfl rfl (Nat.le_of_ble_eq_true rfl) dX10_climb_198 (p_X10_gives hL) ?_
    exact go_ireturn (Nat.le_refl _) (Nat.le_refl _) rfl dX10_climb_201 h
  · have h := h.2 c2
    refine go_iconst dX10_climb_45 ?_
    refine go_istore [1, 2, 3, 4, 5, 6, 7, 0] (L' := [(0, vR E 107), (1, vI v1), (2, vI v2), (3, vI v3), (4, vJ v4), (6, vI v6), (7, vI v7), (8, vI (-1))]) dX10_climb_46 (by decide) rfl ?_
    refine go_iconst dX10_climb_48 ?_
    refine go_istore [1, 2, 3, 4, 5, 6, 7, 8, 0] (L' := [(0, vR E 107), (1, vI v1), (2, vI v2), (3, vI v3), (4, vJ v4), (6, vI v6), (7, vI v7), (8, vI (-1)), (9, vI 0)]) dX10_climb_49 (by decide) rfl ?_
    exact h
theorem s_X10_climb_51 {l : Launch} {E : Ev} {Q : Int → Sh → Dm → Prop} {G : Sh} {D : Dm} (hL : Lay G) {v1 v2 v3 v4 v6 v7 v8 v9 : Int}  (h : ((-2147483648 ≤ v9 ∧ v9 < 2147483648)) ∧ (((iSl 1 (D 108 0)) ≤ v9 → ((-2147483648 ≤ v8 ∧ v8 < 2147483648)) ∧ ((v8 = (-1) → KX10_climb l E Q 40 [(0, vR E 107), (1, vI v1), (2, vI v2), (3, vI v3), (4, vJ v4), (6, vI (v6 + 0)), (7, vI 0)] G D) ∧ (v8 ≠ (-1) → KX10_climb l E Q 40 [(0, vR E 107), (1, vI v1), (2, vI v2), (3, vI v8), (4, vJ v4), (6, vI (v6 + 1)), (7, vI 1)] G D))) ∧ (v9 < (iSl 1 (D 108 0)) → (((iA v9 (iX v2 (-1))) ≠ 0 → KX10_climb l E Q 51 [(0, vR E 107), (1, vI v1), (2, vI v2), (3, vI v3), (4, vJ v4), (6, vI v6), (7, vI v7), (8, vI v8), (9, vI (v9 + 1))] G D) ∧ ((iA v9 (iX v2 (-1))) = 0 → C0 l E MX10_bits 0 [vI (iA v9 (iX v3 (-1)))] G D (fun r11 D11 => ((-2147483648 ≤ r11 ∧ r11 < 2147483648)) ∧ ((r11 ≠ 1 → KX10_climb l E Q 51 [(0, vR E 107), (1, vI v1), (2, vI v2), (3, vI v3), (4, vJ v4), (6, vI v6), (7, vI v7), (8, vI v8), (9, vI (v9 + 1))] G D11) ∧ (r11 = 1 → C0 l E MX10_bits 0 [vI (iA v3 (iX v9 (-1)))] G D11 (fun r16 D16 => ((-2147483648 ≤ r16 ∧ r16 < 2147483648)) ∧ ((r16 = 1 → C0 l E MX10_worthOf 1 [vR E 107, vI v1, vI v9] G D16 (fun r20 D20 => ((-9223372036854775808 ≤ r20 ∧ r20 < 9223372036854775808) ∧ (-9223372036854775808 ≤ v4 ∧ v4 < 9223372036854775808)) ∧ ((v4 < r20 → KX10_climb l E Q 51 [(0, vR E 107), (1, vI v1), (2, vI v2), (3, vI v3), (4, vJ r20), (6, vI v6), (7, vI v7), (8, vI v9), (9, vI (v9 + 1))] G D20) ∧ (r20 ≤ v4 → KX10_climb l E Q 51 [(0, vR E 107), (1, vI v1), (2, vI v2), (3, vI v3), (4, vJ v4), (6, vI v6), (7, vI v7), (8, vI v8), (9, vI (v9 + 1))] G D20)))) ∧ (r16 ≠ 1 → KX10_climb l E Q 51 [(0, vR E 107), (1, vI v1), (2, vI v2), (3, vI v3), (4, vJ v4), (6, vI v6), (7, vI v7), (8, vI v8), (9, vI (v9 + 1))] G D16))))))))))) : KX10_climb l E Q 51 [(0, vR E 107), (1, vI v1), (2, vI v2), (3, vI v3), (4, vJ v4), (6, vI v6), (7, vI v7), (8, vI v8), (9, vI v9)] G D := by
  obtain ⟨s1, h⟩ := h
  refine go_iload 8 dX10_climb_51 rfl ?_
  refine go_iconst dX10_climb_53 ?_
  refine go_aload_n 0 dX10_climb_54 rfl rfl ?_
  refine go_getR 0 f_X10_7 rfl (hL.1 107 _ rfl) (hL.2.1 107 0 _ rfl (by decide)) dX10_climb_55 ?_
  refine go_iconst dX10_climb_58 ?_
  refine go_iaload (hL.1 108 _ rfl) (b := 500) rfl (by decide) (by decide) dX10_climb_59 ?_
  refine go_ishl dX10_climb_60 ?_
  refine go_icmp_ge 136 dX10_climb_61 (by decide) s1 (r32 _) (fun c2 => ?_) (fun c2 => ?_)
  · have h := h.1 c2
    obtain ⟨s3, h⟩ := h
    refine go_iload 7 dX10_climb_136 rfl ?_
    refine go_iconst dX10_climb_138 ?_
    refine go_icmp_eq 146 dX10_climb_139 (by decide) s3 (by decide) (fun c4 => ?_) (fun c4 => ?_)
    · have h := h.1 c4
      refine go_iconst dX10_climb_146 ?_
      refine go_istore [1, 2, 3, 4, 5, 6, 0, 7, 8] (L' := [(0, vR E 107), (1, vI v1), (2, vI v2), (3, vI v3), (4, vJ v4), (6, vI v6), (7, vI 0), (8, vI v8), (9, vI v9)]) dX10_climb_147 (by decide) rfl ?_
      refine go_iload 6 dX10_climb_149 rfl ?_
      refine go_if_eq 159 dX10_climb_151 (by decide) (by decide) (fun _ => ?_) (fun hx => absurd hx (by decide))
      refine go_iload_n 3 dX10_climb_159 rfl rfl ?_
      refine go_istore_n [1, 2, 3, 0, 4, 5, 6, 7, 8] (L' := [(0, vR E 107), (1, vI v1), (2, vI v2), (3, vI v3), (4, vJ v4), (6, vI v6), (7, vI 0), (8, vI v8), (9, vI v9)]) dX10_climb_160 rfl (by decide) rfl ?_
      refine go_iload 5 dX10_climb_161 rfl ?_
      refine go_iload 6 dX10_climb_163 rfl ?_
      refine go_if_eq 172 dX10_climb_165 (by decide) (by decide) (fun _ => ?_) (fun hx => absurd hx (by decide))
      refine go_iconst dX10_climb_172 ?_
      refine go_iadd dX10_climb_173 ?_
      refine go_istore [1, 2, 3, 4, 5, 0, 6, 7, 8] (L' := [(0, vR E 107), (1, vI v1), (2, vI v2), (3, vI v3), (4, vJ v4), (6, vI (v6 + 0)), (7, vI 0), (8, vI v8), (9, vI v9)]) dX10_climb_174 (by decide) rfl ?_
      refine go_goto 40 dX10_climb_176 (by decide) ?_
      refine go_sub [0, 1, 2, 3, 4, 5, 6] (L' := [(0, vR E 107), (1, vI v1), (2, vI v2), (3, vI v3), (4, vJ v4), (6, vI (v6 + 0)), (7, vI 0)]) rfl ?_
      exact h
    · have h := h.2 c4
      refine go_iconst dX10_climb_142 ?_
      refine go_goto 147 dX10_climb_143 (by decide) ?_
      refine go_istore [1, 2, 3, 4, 5, 6, 0, 7, 8] (L' := [(0, vR E 107), (1, vI v1), (2, vI v2), (3, vI v3), (4, vJ v4), (6, vI v6), (7, vI 1), (8, vI v8), (9, vI v9)]) dX10_climb_147 (by decide) rfl ?_
      refine go_iload 6 dX10_climb_149 rfl ?_
      refine go_if_eq 159 dX10_climb_151 (by decide) (by decide) (fun hx => absurd hx (by decide)) (fun _ => ?_)
      refine go_iload 7 dX10_climb_154 rfl ?_
      refine go_goto 160 dX10_climb_156 (by decide) ?_
      refine go_istore_n [1, 2, 3, 0, 4, 5, 6, 7, 8] (L' := [(0, vR E 107), (1, vI v1), (2, vI v2), (3, vI v8), (4, vJ v4), (6, vI v6), (7, vI 1), (8, vI v8), (9, vI v9)]) dX10_climb_160 rfl (by decide) rfl ?_
      refine go_iload 5 dX10_climb_161 rfl ?_
      refine go_iload 6 dX10_climb_163 rfl ?_
      refine go_if_eq 172 dX10_climb_165 (by decide) (by decide) (fun hx => absurd hx (by decide)) (fun _ => ?_)
      refine go_iconst dX10_climb_168 ?_
      refine go_goto 173 dX10_climb_169 (by decide) ?_
      refine go_iadd dX10_climb_173 ?_
      refine go_istore [1, 2, 3, 4, 5, 0, 6, 7, 8] (L' := [(0, vR E 107), (1, vI v1), (2, vI v2), (3, vI v8), (4, vJ v4), (6, vI (v6 + 1)), (7, vI 1), (8, vI v8), (9, vI v9)]) dX10_climb_174 (by decide) rfl ?_
      refine go_goto 40 dX10_climb_176 (by decide) ?_
      refine go_sub [0, 1, 2, 3, 4, 5, 6] (L' := [(0, vR E 107), (1, vI v1), (2, vI v2), (3, vI v8), (4, vJ v4), (6, vI (v6 + 1)), (7, vI 1)]) rfl ?_
      exact h
  · have h := h.2 c2
    refine go_iload 8 dX10_climb_64 rfl ?_
    refine go_iload_n 2 dX10_climb_66 rfl rfl ?_
    refine go_iconst dX10_climb_67 ?_
    refine go_ixor dX10_climb_68 ?_
    refine go_iand dX10_climb_69 ?_
    refine go_if_ne 130 dX10_climb_70 (by decide) (r32 _) (fun c8 => ?_) (fun c8 => ?_)
    · have h := h.1 c8
      refine go_iinc 8 [1, 2, 3, 4, 5, 6, 7, 8, 0] (L' := [(0, vR E 107), (1, vI v1), (2, vI v2), (3, vI v3), (4, vJ v4), (6, vI v6), (7, vI v7), (8, vI v8), (9, vI (v9 + 1))]) dX10_climb_130 (by decide) rfl rfl ?_
      refine go_goto 51 dX10_climb_133 (by decide) ?_
      exact h
    · have h := h.2 c8
      refine go_iload 8 dX10_climb_73 rfl ?_
      refine go_iload_n 3 dX10_climb_75 rfl rfl ?_
      refine go_iconst dX10_climb_76 ?_
      refine go_ixor dX10_climb_77 ?_
      refine go_iand dX10_climb_78 ?_
      refine go_sI (M := MX10_bits) [vI (iA v9 (iX v3 (-1)))] [] ms_X10_302 ⟨Nat.le_of_ble_eq_true rfl, Nat.le_of_ble_eq_true rfl⟩ ⟨Nat.le_refl _, Nat.le_refl _⟩ rfl rfl (Nat.le_of_ble_eq_true rfl) dX10_climb_79 h (fun r11 D11 h => ?_)
      obtain ⟨s12, h⟩ := h
      refine go_iconst dX10_climb_82 ?_
      refine go_icmp_ne 130 dX10_climb_83 (by decide) s12 (by decide) (fun c13 => ?_) (fun c13 => ?_)
      · have h := h.1 c13
        refine go_iinc 8 [1, 2, 3, 4, 5, 6, 7, 8, 0] (L' := [(0, vR E 107), (1, vI v1), (2, vI v2), (3, vI v3), (4, vJ v4), (6, vI v6), (7, vI v7), (8, vI v8), (9, vI (v9 + 1))]) dX10_climb_130 (by decide) rfl rfl ?_
        refine go_goto 51 dX10_climb_133 (by decide) ?_
        exact h
      · have h := h.2 c13
        refine go_iload_n 3 dX10_climb_86 rfl rfl ?_
        refine go_iload 8 dX10_climb_87 rfl ?_
        refine go_iconst dX10_climb_89 ?_
        refine go_ixor dX10_climb_90 ?_
        refine go_iand dX10_climb_91 ?_
        refine go_sI (M := MX10_bits) [vI (iA v3 (iX v9 (-1)))] [] ms_X10_302 ⟨Nat.le_of_ble_eq_true rfl, Nat.le_of_ble_eq_true rfl⟩ ⟨Nat.le_refl _, Nat.le_refl _⟩ rfl rfl (Nat.le_of_ble_eq_true rfl) dX10_climb_92 h (fun r16 D16 h => ?_)
        obtain ⟨s17, h⟩ := h
        refine go_iconst dX10_climb_95 ?_
        refine go_icmp_eq 102 dX10_climb_96 (by decide) s17 (by decide) (fun c18 => ?_) (fun c18 => ?_)
        · have h := h.1 c18
          refine go_aload_n 0 dX10_climb_102 rfl rfl ?_
          refine go_iload_n 1 dX10_climb_103 rfl rfl ?_
          refine go_iload 8 dX10_climb_104 rfl ?_
          refine go_vJ (M := MX10_worthOf) [vI v1, vI v9] [] mv_X10_295 (hL.1 107 _ rfl) rfl (by decide) ⟨Nat.le_of_ble_eq_true rfl, Nat.le_of_ble_eq_true rfl⟩ ⟨Nat.le_refl _, Nat.le_refl _⟩ rfl rfl (Nat.le_of_ble_eq_true rfl) dX10_climb_106 h (fun r20 D20 h => ?_)
          obtain ⟨s21, h⟩ := h
          refine go_lstore [1, 2, 3, 4, 5, 6, 7, 8, 9, 0] (L' := [(0, vR E 107), (1, vI v1), (2, vI v2), (3, vI v3), (4, vJ v4), (6, vI v6), (7, vI v7), (8, vI v8), (9, vI v9), (10, vJ r20)]) dX10_climb_109 (by decide) rfl ?_
          refine go_lload 9 dX10_climb_111 rfl ?_
          refine go_lload 4 dX10_climb_113 rfl ?_
          refine go_lcmp_gt 122 dX10_climb_115 dX10_climb_116 (by decide) s21.1 s21.2 (fun c22 => ?_) (fun c22 => ?_)
          · have h := h.1 c22
            refine go_lload 9 dX10_climb_122 rfl ?_
            refine go_lstore [1, 2, 3, 4, 0, 5, 6, 7, 8, 9] (L' := [(0, vR E 107), (1, vI v1), (2, vI v2), (3, vI v3), (4, vJ r20), (6, vI v6), (7, vI v7), (8, vI v8), (9, vI v9), (10, vJ r20)]) dX10_climb_124 (by decide) rfl ?_
            refine go_iload 8 dX10_climb_126 rfl ?_
            refine go_istore [1, 2, 3, 4, 5, 6, 7, 0, 8, 9] (L' := [(0, vR E 107), (1, vI v1), (2, vI v2), (3, vI v3), (4, vJ r20), (6, vI v6), (7, vI v7), (8, vI v9), (9, vI v9), (10, vJ r20)]) dX10_climb_128 (by decide) rfl ?_
            refine go_iinc 8 [1, 2, 3, 4, 5, 6, 7, 8, 0, 9] (L' := [(0, vR E 107), (1, vI v1), (2, vI v2), (3, vI v3), (4, vJ r20), (6, vI v6), (7, vI v7), (8, vI v9), (9, vI (v9 + 1)), (10, vJ r20)]) dX10_climb_130 (by decide) rfl rfl ?_
            refine go_goto 51 dX10_climb_133 (by decide) ?_
            refine go_sub [0, 1, 2, 3, 4, 5, 6, 7, 8] (L' := [(0, vR E 107), (1, vI v1), (2, vI v2), (3, vI v3), (4, vJ r20), (6, vI v6), (7, vI v7), (8, vI v9), (9, vI (v9 + 1))]) rfl ?_
            exact h
          · have h := h.2 c22
            refine go_goto 130 dX10_climb_119 (by decide) ?_
            refine go_iinc 8 [1, 2, 3, 4, 5, 6, 7, 8, 0, 9] (L' := [(0, vR E 107), (1, vI v1), (2, vI v2), (3, vI v3), (4, vJ v4), (6, vI v6), (7, vI v7), (8, vI v8), (9, vI (v9 + 1)), (10, vJ r20)]) dX10_climb_130 (by decide) rfl rfl ?_
            refine go_goto 51 dX10_climb_133 (by decide) ?_
            refine go_sub [0, 1, 2, 3, 4, 5, 6, 7, 8] (L' := [(0, vR E 107), (1, vI v1), (2, vI v2), (3, vI v3), (4, vJ v4), (6, vI v6), (7, vI v7), (8, vI v8), (9, vI (v9 + 1))]) rfl ?_
            exact h
        · have h := h.2 c18
          refine go_goto 130 dX10_climb_99 (by decide) ?_
          refine go_iinc 8 [1, 2, 3, 4, 5, 6, 7, 8, 0] (L' := [(0, vR E 107), (1, vI v1), (2, vI v2), (3, vI v3), (4, vJ v4), (6, vI v6), (7, vI v7), (8, vI v8), (9, vI (v9 + 1))]) dX10_climb_130 (by decide) rfl rfl ?_
          refine go_goto 51 dX10_climb_133 (by decide) ?_
          exact h
theorem s_X10_climbed {l : Launch} {E : Ev} {Q : Int → Sh → Dm → Prop} {G : Sh} {D : Dm} (hL : Lay G)  (h : (((D 107 24) ≠ (-1) → Q (D 107 24) G (upd2 D 107 1 0)) ∧ ((D 107 24) = (-1) → Q (-1) G (upd2 D 107 1 6)))) : Ct l E MX10_climbed 0 0 0 [vR E 107] G D Q := by
  refine Ct.of (by decide) (Nat.le_of_ble_eq_true rfl) ?_
  show KX10_climbed l E Q 0 [(0, vR E 107)] G D
  refine go_aload_n 0 dX10_climbed_0 rfl rfl ?_
  refine go_getI 24 (i := 24) f_X10_50 rfl (hL.1 107 _ rfl) dX10_climbed_1 ?_
  refine go_iconst dX10_climbed_4 ?_
  refine go_rngI (c := 107) (i := 24) (hL.1 107 _ rfl) rfl (fun (q2 : -2147483648 ≤ (D 107 24) ∧ (D 107 24) < 2147483648) => ?_)
  refine go_icmp_ne 17 dX10_climbed_5 (by decide) q2 (by decide) (fun c3 => ?_) (fun c3 => ?_)
  · have h := h.1 c3
    refine go_aload_n 0 dX10_climbed_17 rfl rfl ?_
    refine go_aload_n 0 dX10_climbed_18 rfl rfl ?_
    refine go_getI 24 (i := 24) f_X10_50 rfl (hL.1 107 _ rfl) dX10_climbed_19 ?_
    refine go_vIp (M := MX10_gives) [vI (D 107 24)] [] mv_X10_204 (hL.1 107 _ rfl) rfl (by decide) ⟨Nat.le_of_ble_eq_true rfl, Nat.le_of_ble_eq_true rfl⟩ ⟨Nat.le_refl _, Nat.le_refl _⟩ rfl rfl (Nat.le_of_ble_eq_true rfl) dX10_climbed_22 (p_X10_gives hL) ?_
    exact go_ireturn (Nat.le_refl _) (Nat.le_refl _) rfl dX10_climbed_25 h
  · have h := h.2 c3
    refine go_aload_n 0 dX10_climbed_8 rfl rfl ?_
    refine go_bipush dX10_climbed_9 (by decide) ?_
    refine go_vIp (M := MX10_refuse) [vI 6] [] mv_X10_194 (hL.1 107 _ rfl) rfl (by decide) ⟨Nat.le_of_ble_eq_true rfl, Nat.le_of_ble_eq_true rfl⟩ ⟨Nat.le_refl _, Nat.le_refl _⟩ rfl rfl (Nat.le_of_ble_eq_true rfl) dX10_climbed_11 (p_X10_refuse hL (by decide)) ?_
    refine go_goto 25 dX10_climbed_14 (by decide) ?_
    exact go_ireturn (Nat.le_refl _) (Nat.le_refl _) rfl dX10_climbed_25 h
theorem s_X10_edge {l : Launch} {E : Ev} {Q : Int → Sh → Dm → Prop} {G : Sh} {D : Dm} (hL : Lay G) {v1 v2 : Int}  (h : ((-2147483648 ≤ v1 ∧ v1 < 2147483648)) ∧ ((¬ ((0 ≤ v1) ∧ (v1 < (D 108 2))) → Q (-1) G (upd2 D 107 1 1)) ∧ (((0 ≤ v1) ∧ (v1 < (D 108 2))) → ((-2147483648 ≤ v2 ∧ v2 < 2147483648)) ∧ ((v2 < 1 → Q (-1) G (upd2 D 107 1 1)) ∧ (1 ≤ v2 → ((v2 ≤ 6 → C0 l E MX10_bestOf 0 [vR E 107, vI v1, vI v2] G (upd2 D 108 4 0) (fun r13 D13 => KX10_edge l E Q 53 [(0, vR E 107), (1, vI v1), (2, vI v2), (3, vI (D 108 4)), (4, vI r13), (5, vI (-1)), (6, vI 1)] G D13)) ∧ (6 < v2 → Q (-1) G (upd2 D 107 1 1)))))))) : Ct l E MX10_edge 0 0 0 [vR E 107, vI v1, vI v2] G D Q := by
  refine Ct.of (by decide) (Nat.le_of_ble_eq_true rfl) ?_
  show KX10_edge l E Q 0 [(0, vR E 107), (1, vI v1), (2, vI v2)] G D
  obtain ⟨s1, h⟩ := h
  refine go_aload_n 0 dX10_edge_0 rfl rfl ?_
  refine go_iload_n 1 dX10_edge_1 rfl rfl ?_
  refine go_vIp (M := MX10_isFamily) [vI v1] [] mv_X10_223 (hL.1 107 _ rfl) rfl (by decide) ⟨Nat.le_of_ble_eq_true rfl, Nat.le_of_ble_eq_true rfl⟩ ⟨Nat.le_refl _, Nat.le_refl _⟩ rfl rfl (Nat.le_of_ble_eq_true rfl) dX10_edge_2 (p_X10_isFamily hL s1) ?_
  refine go_ifb_eq 19 dX10_edge_5 (by decide) (fun c3 => ?_) (fun c3 => ?_)
  · have h := h.1 c3
    refine go_aload_n 0 dX10_edge_19 rfl rfl ?_
    refine go_iconst dX10_edge_20 ?_
    refine go_vIp (M := MX10_refuse) [vI 1] [] mv_X10_194 (hL.1 107 _ rfl) rfl (by decide) ⟨Nat.le_of_ble_eq_true rfl, Nat.le_of_ble_eq_true rfl⟩ ⟨Nat.le_refl _, Nat.le_refl _⟩ rfl rfl (Nat.le_of_ble_eq_true rfl) dX10_edge_21 (p_X10_refuse hL (by decide)) ?_
    exact go_ireturn (Nat.le_refl _) (Nat.le_refl _) rfl dX10_edge_24 h
  · have h := h.2 c3
    obtain ⟨s6, h⟩ := h
    refine go_iload_n 2 dX10_edge_8 rfl rfl ?_
    refine go_iconst dX10_edge_9 ?_
    refine go_icmp_lt 19 dX10_edge_10 (by decide) s6 (by decide) (fun c7 => ?_) (fun c7 => ?_)
    · have h := h.1 c7
      refine go_aload_n 0 dX10_edge_19 rfl rfl ?_
      refine go_iconst dX10_edge_20 ?_
      refine go_vIp (M := MX10_refuse) [vI 1] [] mv_X10_194 (hL.1 107 _ rfl) rfl (by decide) ⟨Nat.le_of_ble_eq_true rfl, Nat.le_of_ble_eq_true rfl⟩ ⟨Nat.le_refl _, Nat.le_refl _⟩ rfl rfl (Nat.le_of_ble_eq_true rfl) dX10_edge_21 (p_X10_refuse hL (by decide)) ?_
      exact go_ireturn (Nat.le_refl _) (Nat.le_refl _) rfl dX10_edge_24 h
    · have h := h.2 c7
      refine go_iload_n 2 dX10_edge_13 rfl rfl ?_
      refine go_bipush dX10_edge_14 (by decide) ?_
      refine go_icmp_le 25 dX10_edge_16 (by decide) s6 (by decide) (fun c11 => ?_) (fun c11 => ?_)
      · have h := h.1 c11
        refine go_aload_n 0 dX10_edge_25 rfl rfl ?_
        refine go_getR 0 f_X10_7 rfl (hL.1 107 _ rfl) (hL.2.1 107 0 _ rfl (by decide)) dX10_edge_26 ?_
        refine go_iconst dX10_edge_29 ?_
        refine go_iaload (hL.1 108 _ rfl) (b := 500) rfl (by decide) (by decide) dX10_edge_30 ?_
        refine go_istore_n [1, 2, 3, 0] (L' := [(0, vR E 107), (1, vI v1), (2, vI v2), (3, vI (D 108 4))]) dX10_edge_31 rfl (by decide) rfl ?_
        refine go_aload_n 0 dX10_edge_32 rfl rfl ?_
        refine go_getR 0 f_X10_7 rfl (hL.1 107 _ rfl) (hL.2.1 107 0 _ rfl (by decide)) dX10_edge_33 ?_
        refine go_iconst dX10_edge_36 ?_
        refine go_iconst dX10_edge_37 ?_
        refine go_iastore (hL.1 108 _ rfl) (b := 500) rfl (by decide) (by decide) (by decide) dX10_edge_38 ?_
        refine go_aload_n 0 dX10_edge_39 rfl rfl ?_
        refine go_iload_n 1 dX10_edge_40 rfl rfl ?_
        refine go_iload_n 2 dX10_edge_41 rfl rfl ?_
        refine go_vI (M := MX10_bestOf) [vI v1, vI v2] [] mv_X10_308 (hL.1 107 _ rfl) rfl (by decide) ⟨Nat.le_of_ble_eq_true rfl, Nat.le_of_ble_eq_true rfl⟩ ⟨Nat.le_refl _, Nat.le_refl _⟩ rfl rfl (Nat.le_of_ble_eq_true rfl) dX10_edge_42 h (fun r13 D13 h => ?_)
        refine go_istore [1, 2, 3, 4, 0] (L' := [(0, vR E 107), (1, vI v1), (2, vI v2), (3, vI (D 108 4)), (4, vI r13)]) dX10_edge_45 (by decide) rfl ?_
        refine go_iconst dX10_edge_47 ?_
        refine go_istore [1, 2, 3, 4, 5, 0] (L' := [(0, vR E 107), (1, vI v1), (2, vI v2), (3, vI (D 108 4)), (4, vI r13), (5, vI (-1))]) dX10_edge_48 (by decide) rfl ?_
        refine go_iconst dX10_edge_50 ?_
        refine go_istore [1, 2, 3, 4, 5, 6, 0] (L' := [(0, vR E 107), (1, vI v1), (2, vI v2), (3, vI (D 108 4)), (4, vI r13), (5, vI (-1)), (6, vI 1)]) dX10_edge_51 (by decide) rfl ?_
        exact h
      · have h := h.2 c11
        refine go_aload_n 0 dX10_edge_19 rfl rfl ?_
        refine go_iconst dX10_edge_20 ?_
        refine go_vIp (M := MX10_refuse) [vI 1] [] mv_X10_194 (hL.1 107 _ rfl) rfl (by decide) ⟨Nat.le_of_ble_eq_true rfl, Nat.le_of_ble_eq_true rfl⟩ ⟨Nat.le_refl _, Nat.le_refl _⟩ rfl rfl (Nat.le_of_ble_eq_true rfl) dX10_edge_21 (p_X10_refuse hL (by decide)) ?_
        exact go_ireturn (Nat.le_refl _) (Nat.le_refl _) rfl dX10_edge_24 h
theorem s_X10_edge_53 {l : Launch} {E : Ev} {Q : Int → Sh → Dm → Prop} {G : Sh} {D : Dm} (hL : Lay G) {v1 v2 v3 v4 v5 v6 : Int}  (h : ((-2147483648 ≤ v6 ∧ v6 < 2147483648)) ∧ ((100 ≤ v6 → ((-2147483648 ≤ v3 ∧ v3 < 2147483648) ∧ (-2147483648 ≤ v5 ∧ v5 < 2147483648)) ∧ ((v5 ≠ (-1) → Q v5 G (upd2 (upd2 D 108 4 v3) 107 1 0)) ∧ (v5 = (-1) → Q (-1) G (upd2 (upd2 D 108 4 v3) 107 1 6)))) ∧ (v6 < 100 → ((-2147483648 ≤ v4 ∧ v4 < 2147483648)) ∧ ((v4 = (-1) → ((-2147483648 ≤ v3 ∧ v3 < 2147483648) ∧ (-2147483648 ≤ v5 ∧ v5 < 2147483648)) ∧ ((v5 ≠ (-1) → Q v5 G (upd2 (upd2 D 108 4 v3) 107 1 0)) ∧ (v5 = (-1) → Q (-1) G (upd2 (upd2 D 108 4 v3) 107 1 6)))) ∧ (v4 ≠ (-1) → ((-2147483648 ≤ v5 ∧ v5 < 2147483648)) ∧ ((v5 ≠ (-1) → ((-2147483648 ≤ v3 ∧ v3 < 2147483648)) ∧ ((v5 ≠ (-1) → Q v5 G (upd2 (upd2 D 108 4 v3) 107 1 0)) ∧ (v5 = (-1) → Q (-1) G (upd2 (upd2 D 108 4 v3) 107 1 6)))) ∧ (v5 = (-1) → C0 l E MX10_bestOf 0 [vR E 107, vI v1, vI v2] G (upd2 D 108 4 v6) (fun r26 D26 => ((-2147483648 ≤ r26 ∧ r26 < 2147483648)) ∧ ((r26 = v4 → KX10_edge l E Q 53 [(0, vR E 107), (1, vI v1), (2, vI v2), (3, vI v3), (4, vI v4), (5, vI (-1)), (6, vI (v6 + 1))] G D26) ∧ (r26 ≠ v4 → KX10_edge l E Q 53 [(0, vR E 107), (1, vI v1), (2, vI v2), (3, vI v3), (4, vI v4), (5, vI v6), (6, vI (v6 + 1))] G D26)))))))))) : KX10_edge l E Q 53 [(0, vR E 107), (1, vI v1), (2, vI v2), (3, vI v3), (4, vI v4), (5, vI v5), (6, vI v6)] G D := by
  obtain ⟨s1, h⟩ := h
  refine go_iload 6 dX10_edge_53 rfl ?_
  refine go_bipush dX10_edge_55 (by decide) ?_
  refine go_icmp_ge 105 dX10_edge_57 (by decide) s1 (by decide) (fun c2 => ?_) (fun c2 => ?_)
  · have h := h.1 c2
    obtain ⟨s3, h⟩ := h
    refine go_aload_n 0 dX10_edge_105 rfl rfl ?_
    refine go_getR 0 f_X10_7 rfl (hL.1 107 _ rfl) (hL.2.1 107 0 _ rfl (by decide)) dX10_edge_106 ?_
    refine go_iconst dX10_edge_109 ?_
    refine go_iload_n 3 dX10_edge_110 rfl rfl ?_
    refine go_iastore (hL.1 108 _ rfl) (b := 500) rfl (by decide) (by decide) s3.1 dX10_edge_111 ?_
    refine go_iload 5 dX10_edge_112 rfl ?_
    refine go_iconst dX10_edge_114 ?_
    refine go_icmp_ne 127 dX10_edge_115 (by decide) s3.2 (by decide) (fun c4 => ?_) (fun c4 => ?_)
    · have h := h.1 c4
      refine go_aload_n 0 dX10_edge_127 rfl rfl ?_
      refine go_iload 5 dX10_edge_128 rfl ?_
      refine go_vIp (M := MX10_gives) [vI v5] [] mv_X10_204 (hL.1 107 _ rfl) rfl (by decide) ⟨Nat.le_of_ble_eq_true rfl, Nat.le_of_ble_eq_true rfl⟩ ⟨Nat.le_refl _, Nat.le_refl _⟩ rfl rfl (Nat.le_of_ble_eq_true rfl) dX10_edge_130 (p_X10_gives hL) ?_
      exact go_ireturn (Nat.le_refl _) (Nat.le_refl _) rfl dX10_edge_133 h
    · have h := h.2 c4
      refine go_aload_n 0 dX10_edge_118 rfl rfl ?_
      refine go_bipush dX10_edge_119 (by decide) ?_
      refine go_vIp (M := MX10_refuse) [vI 6] [] mv_X10_194 (hL.1 107 _ rfl) rfl (by decide) ⟨Nat.le_of_ble_eq_true rfl, Nat.le_of_ble_eq_true rfl⟩ ⟨Nat.le_refl _, Nat.le_refl _⟩ rfl rfl (Nat.le_of_ble_eq_true rfl) dX10_edge_121 (p_X10_refuse hL (by decide)) ?_
      refine go_goto 133 dX10_edge_124 (by decide) ?_
      exact go_ireturn (Nat.le_refl _) (Nat.le_refl _) rfl dX10_edge_133 h
  · have h := h.2 c2
    obtain ⟨s9, h⟩ := h
    refine go_iload 4 dX10_edge_60 rfl ?_
    refine go_iconst dX10_edge_62 ?_
    refine go_icmp_eq 105 dX10_edge_63 (by decide) s9 (by decide) (fun c10 => ?_) (fun c10 => ?_)
    · have h := h.1 c10
      obtain ⟨s11, h⟩ := h
      refine go_aload_n 0 dX10_edge_105 rfl rfl ?_
      refine go_getR 0 f_X10_7 rfl (hL.1 107 _ rfl) (hL.2.1 107 0 _ rfl (by decide)) dX10_edge_106 ?_
      refine go_iconst dX10_edge_109 ?_
      refine go_iload_n 3 dX10_edge_110 rfl rfl ?_
      refine go_iastore (hL.1 108 _ rfl) (b := 500) rfl (by decide) (by decide) s11.1 dX10_edge_111 ?_
      refine go_iload 5 dX10_edge_112 rfl ?_
      refine go_iconst dX10_edge_114 ?_
      refine go_icmp_ne 127 dX10_edge_115 (by decide) s11.2 (by decide) (fun c12 => ?_) (fun c12 => ?_)
      · have h := h.1 c12
        refine go_aload_n 0 dX10_edge_127 rfl rfl ?_
        refine go_iload 5 dX10_edge_128 rfl ?_
        refine go_vIp (M := MX10_gives) [vI v5] [] mv_X10_204 (hL.1 107 _ rfl) rfl (by decide) ⟨Nat.le_of_ble_eq_true rfl, Nat.le_of_ble_eq_true rfl⟩ ⟨Nat.le_refl _, Nat.le_refl _⟩ rfl rfl (Nat.le_of_ble_eq_true rfl) dX10_edge_130 (p_X10_gives hL) ?_
        exact go_ireturn (Nat.le_refl _) (Nat.le_refl _) rfl dX10_edge_133 h
      · have h := h.2 c12
        refine go_aload_n 0 dX10_edge_118 rfl rfl ?_
        refine go_bipush dX10_edge_119 (by decide) ?_
        refine go_vIp (M := MX10_refuse) [vI 6] [] mv_X10_194 (hL.1 107 _ rfl) rfl (by decide) ⟨Nat.le_of_ble_eq_true rfl, Nat.le_of_ble_eq_true rfl⟩ ⟨Nat.le_refl _, Nat.le_refl _⟩ rfl rfl (Nat.le_of_ble_eq_true rfl) dX10_edge_121 (p_X10_refuse hL (by decide)) ?_
        refine go_goto 133 dX10_edge_124 (by decide) ?_
        exact go_ireturn (Nat.le_refl _) (Nat.le_refl _) rfl dX10_edge_133 h
    · have h := h.2 c10
      obtain ⟨s17, h⟩ := h
      refine go_iload 5 dX10_edge_66 rfl ?_
      refine go_iconst dX10_edge_68 ?_
      refine go_icmp_ne 105 dX10_edge_69 (by decide) s17 (by decide) (fun c18 => ?_) (fun c18 => ?_)
      · have h := h.1 c18
        obtain ⟨s19, h⟩ := h
        refine go_aload_n 0 dX10_edge_105 rfl rfl ?_
        refine go_getR 0 f_X10_7 rfl (hL.1 107 _ rfl) (hL.2.1 107 0 _ rfl (by decide)) dX10_edge_106 ?_
        refine go_iconst dX10_edge_109 ?_
        refine go_iload_n 3 dX10_edge_110 rfl rfl ?_
        refine go_iastore (hL.1 108 _ rfl) (b := 500) rfl (by decide) (by decide) s19 dX10_edge_111 ?_
        refine go_iload 5 dX10_edge_112 rfl ?_
        refine go_iconst dX10_edge_114 ?_
        refine go_icmp_ne 127 dX10_edge_115 (by decide) s17 (by decide) (fun c20 => ?_) (fun c20 => ?_)
        · have h := h.1 c20
          refine go_aload_n 0 dX10_edge_127 rfl rfl ?_
          refine go_iload 5 dX10_edge_128 rfl ?_
          refine go_vIp (M := MX10_gives) [vI v5] [] mv_X10_204 (hL.1 107 _ rfl) rfl (by decide) ⟨Nat.le_of_ble_eq_true rfl, Nat.le_of_ble_eq_true rfl⟩ ⟨Nat.le_refl _, Nat.le_refl _⟩ rfl rfl (Nat.le_of_ble_eq_true rfl) dX10_edge_130 (p_X10_gives hL) ?_
          exact go_ireturn (Nat.le_refl _) (Nat.le_refl _) rfl dX10_edge_133 h
        · have h := h.2 c20
          refine go_aload_n 0 dX10_edge_118 rfl rfl ?_
          refine go_bipush dX10_edge_119 (by decide) ?_
          refine go_vIp (M := MX10_refuse) [vI 6] [] mv_X10_194 (hL.1 107 _ rfl) rfl (by decide) ⟨Nat.le_of_ble_eq_true rfl, Nat.le_of_ble_eq_true rfl⟩ ⟨Nat.le_refl _, Nat.le_refl _⟩ rfl rfl (Nat.le_of_ble_eq_true rfl) dX10_edge_121 (p_X10_refuse hL (by decide)) ?_
          refine go_goto 133 dX10_edge_124 (by decide) ?_
          exact go_ireturn (Nat.le_refl _) (Nat.le_refl _) rfl dX10_edge_133 h
      · have h := h.2 c18
        refine go_aload_n 0 dX10_edge_72 rfl rfl ?_
        refine go_getR 0 f_X10_7 rfl (hL.1 107 _ rfl) (hL.2.1 107 0 _ rfl (by decide)) dX10_edge_73 ?_
        refine go_iconst dX10_edge_76 ?_
        refine go_iload 6 dX10_edge_77 rfl ?_
        refine go_iastore (hL.1 108 _ rfl) (b := 500) rfl (by decide) (by decide) s1 dX10_edge_79 ?_
        refine go_aload_n 0 dX10_edge_80 rfl rfl ?_
        refine go_iload_n 1 dX10_edge_81 rfl rfl ?_
        refine go_iload_n 2 dX10_edge_82 rfl rfl ?_
        refine go_vI (M := MX10_bestOf) [vI v1, vI v2] [] mv_X10_308 (hL.1 107 _ rfl) rfl (by decide) ⟨Nat.le_of_ble_eq_true rfl, Nat.le_of_ble_eq_true rfl⟩ ⟨Nat.le_refl _, Nat.le_refl _⟩ rfl rfl (Nat.le_of_ble_eq_true rfl) dX10_edge_83 h (fun r26 D26 h => ?_)
        obtain ⟨s27, h⟩ := h
        refine go_iload 4 dX10_edge_86 rfl ?_
        refine go_icmp_eq 96 dX10_edge_88 (by decide) s27 s9 (fun c28 => ?_) (fun c28 => ?_)
        · have h := h.1 c28
          refine go_iconst dX10_edge_96 ?_
          refine go_istore [1, 2, 3, 4, 5, 0, 6] (L' := [(0, vR E 107), (1, vI v1), (2, vI v2), (3, vI v3), (4, vI v4), (5, vI (-1)), (6, vI v6)]) dX10_edge_97 (by decide) rfl ?_
          refine go_iinc 6 [1, 2, 3, 4, 5, 6, 0] (L' := [(0, vR E 107), (1, vI v1), (2, vI v2), (3, vI v3), (4, vI v4), (5, vI (-1)), (6, vI (v6 + 1))]) dX10_edge_99 (by decide) rfl rfl ?_
          refine go_goto 53 dX10_edge_102 (by decide) ?_
          exact h
        · have h := h.2 c28
          refine go_iload 6 dX10_edge_91 rfl ?_
          refine go_goto 97 dX10_edge_93 (by decide) ?_
          refine go_istore [1, 2, 3, 4, 5, 0, 6] (L' := [(0, vR E 107), (1, vI v1), (2, vI v2), (3, vI v3), (4, vI v4), (5, vI v6), (6, vI v6)]) dX10_edge_97 (by decide) rfl ?_
          refine go_iinc 6 [1, 2, 3, 4, 5, 6, 0] (L' := [(0, vR E 107), (1, vI v1), (2, vI v2), (3, vI v3), (4, vI v4), (5, vI v6), (6, vI (v6 + 1))]) dX10_edge_99 (by decide) rfl rfl ?_
          refine go_goto 53 dX10_edge_102 (by decide) ?_
          exact h
theorem s_X10_change {l : Launch} {E : Ev} {Q : Int → Sh → Dm → Prop} {G : Sh} {D : Dm} (hL : Lay G) {v1 v2 v3 v4 : Int}  (h : ((-2147483648 ≤ v1 ∧ v1 < 2147483648)) ∧ ((¬ ((0 ≤ v1) ∧ (v1 < (D 108 2))) → Q (-1) G (upd2 D 107 1 1)) ∧ (((0 ≤ v1) ∧ (v1 < (D 108 2))) → ((-2147483648 ≤ v2 ∧ v2 < 2147483648)) ∧ ((v2 < 1 → Q (-1) G (upd2 D 107 1 1)) ∧ (1 ≤ v2 → ((6 < v2 → Q (-1) G (upd2 D 107 1 1)) ∧ (v2 ≤ 6 → ((-2147483648 ≤ v3 ∧ v3 < 2147483648)) ∧ ((¬ ((0 ≤ v3) ∧ (v3 < (D 108 1))) → Q (-1) G (upd2 D 107 1 1)) ∧ (((0 ≤ v3) ∧ (v3 < (D 108 1))) → ((-2147483648 ≤ v4 ∧ v4 < 2147483648)) ∧ ((v4 < 0 → Q (-1) G (upd2 D 107 1 1)) ∧ (0 ≤ v4 → ((v4 ≤ 16 → C0 l E MX10_bestOf 0 [vR E 107, vI v1, vI v2] G D (fun r26 D26 => ((-2147483648 ≤ r26 ∧ r26 < 2147483648)) ∧ ((r26 ≠ (-1) → ((0 ≤ ((58 + (5 * v3)) + 4) ∧ ((58 + (5 * v3)) + 4) < 500)) ∧ C0 l E MX10_bestOf 0 [vR E 107, vI v1, vI v2] G (upd2 D26 108 ((58 + (5 * v3)) + 4) v4) (fun r31 D31 => ((-2147483648 ≤ (D26 108 ((58 + (5 * v3)) + 4)) ∧ (D26 108 ((58 + (5 * v3)) + 4)) < 2147483648) ∧ (-2147483648 ≤ r31 ∧ r31 < 2147483648)) ∧ ((r31 = r26 → Q 0 G (upd2 (upd2 D31 108 ((58 + (5 * v3)) + 4) (D26 108 ((58 + (5 * v3)) + 4))) 107 1 0)) ∧ (r31 ≠ r26 → Q 1 G (upd2 (upd2 D31 108 ((58 + (5 * v3)) + 4) (D26 108 ((58 + (5 * v3)) + 4))) 107 1 0))))) ∧ (r26 = (-1) → Q (-1) G (upd2 D26 107 1 6))))) ∧ (16 < v4 → Q (-1) G (upd2 D 107 1 1)))))))))))))) : Ct l E MX10_change 0 0 0 [vR E 107, vI v1, vI v2, vI v3, vI v4] G D Q := by
  refine Ct.of (by decide) (Nat.le_of_ble_eq_true rfl) ?_
  show KX10_change l E Q 0 [(0, vR E 107), (1, vI v1), (2, vI v2), (3, vI v3), (4, vI v4)] G D
  obtain ⟨s1, h⟩ := h
  refine go_aload_n 0 dX10_change_0 rfl rfl ?_
  refine go_iload_n 1 dX10_change_1 rfl rfl ?_
  refine go_vIp (M := MX10_isFamily) [vI v1] [] mv_X10_223 (hL.1 107 _ rfl) rfl (by decide) ⟨Nat.le_of_ble_eq_true rfl, Nat.le_of_ble_eq_true rfl⟩ ⟨Nat.le_refl _, Nat.le_refl _⟩ rfl rfl (Nat.le_of_ble_eq_true rfl) dX10_change_2 (p_X10_isFamily hL s1) ?_
  refine go_ifb_eq 39 dX10_change_5 (by decide) (fun c3 => ?_) (fun c3 => ?_)
  · have h := h.1 c3
    refine go_aload_n 0 dX10_change_39 rfl rfl ?_
    refine go_iconst dX10_change_40 ?_
    refine go_vIp (M := MX10_refuse) [vI 1] [] mv_X10_194 (hL.1 107 _ rfl) rfl (by decide) ⟨Nat.le_of_ble_eq_true rfl, Nat.le_of_ble_eq_true rfl⟩ ⟨Nat.le_refl _, Nat.le_refl _⟩ rfl rfl (Nat.le_of_ble_eq_true rfl) dX10_change_41 (p_X10_refuse hL (by decide)) ?_
    exact go_ireturn (Nat.le_refl _) (Nat.le_refl _) rfl dX10_change_44 h
  · have h := h.2 c3
    obtain ⟨s6, h⟩ := h
    refine go_iload_n 2 dX10_change_8 rfl rfl ?_
    refine go_iconst dX10_change_9 ?_
    refine go_icmp_lt 39 dX10_change_10 (by decide) s6 (by decide) (fun c7 => ?_) (fun c7 => ?_)
    · have h := h.1 c7
      refine go_aload_n 0 dX10_change_39 rfl rfl ?_
      refine go_iconst dX10_change_40 ?_
      refine go_vIp (M := MX10_refuse) [vI 1] [] mv_X10_194 (hL.1 107 _ rfl) rfl (by decide) ⟨Nat.le_of_ble_eq_true rfl, Nat.le_of_ble_eq_true rfl⟩ ⟨Nat.le_refl _, Nat.le_refl _⟩ rfl rfl (Nat.le_of_ble_eq_true rfl) dX10_change_41 (p_X10_refuse hL (by decide)) ?_
      exact go_ireturn (Nat.le_refl _) (Nat.le_refl _) rfl dX10_change_44 h
    · have h := h.2 c7
      refine go_iload_n 2 dX10_change_13 rfl rfl ?_
      refine go_bipush dX10_change_14 (by decide) ?_
      refine go_icmp_gt 39 dX10_change_16 (by decide) s6 (by decide) (fun c11 => ?_) (fun c11 => ?_)
      · have h := h.1 c11
        refine go_aload_n 0 dX10_change_39 rfl rfl ?_
        refine go_iconst dX10_change_40 ?_
        refine go_vIp (M := MX10_refuse) [vI 1] [] mv_X10_194 (hL.1 107 _ rfl) rfl (by decide) ⟨Nat.le_of_ble_eq_true rfl, Nat.le_of_ble_eq_true rfl⟩ ⟨Nat.le_refl _, Nat.le_refl _⟩ rfl rfl (Nat.le_of_ble_eq_true rfl) dX10_change_41 (p_X10_refuse hL (by decide)) ?_
        exact go_ireturn (Nat.le_refl _) (Nat.le_refl _) rfl dX10_change_44 h
      · have h := h.2 c11
        obtain ⟨s14, h⟩ := h
        refine go_aload_n 0 dX10_change_19 rfl rfl ?_
        refine go_iload_n 3 dX10_change_20 rfl rfl ?_
        refine go_vIp (M := MX10_isHarm) [vI v3] [] mv_X10_216 (hL.1 107 _ rfl) rfl (by decide) ⟨Nat.le_of_ble_eq_true rfl, Nat.le_of_ble_eq_true rfl⟩ ⟨Nat.le_refl _, Nat.le_refl _⟩ rfl rfl (Nat.le_of_ble_eq_true rfl) dX10_change_21 (p_X10_isHarm hL s14) ?_
        refine go_ifb_eq 39 dX10_change_24 (by decide) (fun c16 => ?_) (fun c16 => ?_)
        · have h := h.1 c16
          refine go_aload_n 0 dX10_change_39 rfl rfl ?_
          refine go_iconst dX10_change_40 ?_
          refine go_vIp (M := MX10_refuse) [vI 1] [] mv_X10_194 (hL.1 107 _ rfl) rfl (by decide) ⟨Nat.le_of_ble_eq_true rfl, Nat.le_of_ble_eq_true rfl⟩ ⟨Nat.le_refl _, Nat.le_refl _⟩ rfl rfl (Nat.le_of_ble_eq_true rfl) dX10_change_41 (p_X10_refuse hL (by decide)) ?_
          exact go_ireturn (Nat.le_refl _) (Nat.le_refl _) rfl dX10_change_44 h
        · have h := h.2 c16
          obtain ⟨s19, h⟩ := h
          refine go_iload 4 dX10_change_27 rfl ?_
          refine go_if_lt 39 dX10_change_29 (by decide) s19 (fun c20 => ?_) (fun c20 => ?_)
          · have h := h.1 c20
            refine go_aload_n 0 dX10_change_39 rfl rfl ?_
            refine go_iconst dX10_change_40 ?_
            refine go_vIp (M := MX10_refuse) [vI 1] [] mv_X10_194 (hL.1 107 _ rfl) rfl (by decide) ⟨Nat.le_of_ble_eq_true rfl, Nat.le_of_ble_eq_true rfl⟩ ⟨Nat.le_refl _, Nat.le_refl _⟩ rfl rfl (Nat.le_of_ble_eq_true rfl) dX10_change_41 (p_X10_refuse hL (by decide)) ?_
            exact go_ireturn (Nat.le_refl _) (Nat.le_refl _) rfl dX10_change_44 h
          · have h := h.2 c20
            refine go_iload 4 dX10_change_32 rfl ?_
            refine go_bipush dX10_change_34 (by decide) ?_
            refine go_icmp_le 45 dX10_change_36 (by decide) s19 (by decide) (fun c24 => ?_) (fun c24 => ?_)
            · have h := h.1 c24
              refine go_aload_n 0 dX10_change_45 rfl rfl ?_
              refine go_iload_n 1 dX10_change_46 rfl rfl ?_
              refine go_iload_n 2 dX10_change_47 rfl rfl ?_
              refine go_vI (M := MX10_bestOf) [vI v1, vI v2] [] mv_X10_308 (hL.1 107 _ rfl) rfl (by decide) ⟨Nat.le_of_ble_eq_true rfl, Nat.le_of_ble_eq_true rfl⟩ ⟨Nat.le_refl _, Nat.le_refl _⟩ rfl rfl (Nat.le_of_ble_eq_true rfl) dX10_change_48 h (fun r26 D26 h => ?_)
              obtain ⟨s27, h⟩ := h
              refine go_istore [1, 2, 3, 4, 5, 0] (L' := [(0, vR E 107), (1, vI v1), (2, vI v2), (3, vI v3), (4, vI v4), (5, vI r26)]) dX10_change_51 (by decide) rfl ?_
              refine go_iload 5 dX10_change_53 rfl ?_
              refine go_iconst dX10_change_55 ?_
              refine go_icmp_ne 66 dX10_change_56 (by decide) s27 (by decide) (fun c28 => ?_) (fun c28 => ?_)
              · have h := h.1 c28
                obtain ⟨s29, h⟩ := h
                refine go_aload_n 0 dX10_change_66 rfl rfl ?_
                refine go_iload_n 3 dX10_change_67 rfl rfl ?_
                refine go_iconst dX10_change_68 ?_
                refine go_vIp (M := MX10_ofHarm) [vI v3, vI 4] [] mv_X10_207 (hL.1 107 _ rfl) rfl (by decide) ⟨Nat.le_of_ble_eq_true rfl, Nat.le_of_ble_eq_true rfl⟩ ⟨Nat.le_refl _, Nat.le_refl _⟩ rfl rfl (Nat.le_of_ble_eq_true rfl) dX10_change_69 (p_X10_ofHarm hL s29) ?_
                refine go_istore [1, 2, 3, 4, 5, 6, 0] (L' := [(0, vR E 107), (1, vI v1), (2, vI v2), (3, vI v3), (4, vI v4), (5, vI r26), (6, vI (D26 108 ((58 + (5 * v3)) + 4)))]) dX10_change_72 (by decide) rfl ?_
                refine go_aload_n 0 dX10_change_74 rfl rfl ?_
                refine go_getR 0 f_X10_7 rfl (hL.1 107 _ rfl) (hL.2.1 107 0 _ rfl (by decide)) dX10_change_75 ?_
                refine go_bipush dX10_change_78 (by decide) ?_
                refine go_iconst dX10_change_80 ?_
                refine go_iload_n 3 dX10_change_81 rfl rfl ?_
                refine go_imul dX10_change_82 ?_
                refine go_iadd dX10_change_83 ?_
                refine go_iconst dX10_change_84 ?_
                refine go_iadd dX10_change_85 ?_
                refine go_iload 4 dX10_change_86 rfl ?_
                refine go_iastore (hL.1 108 _ rfl) (b := 500) rfl (by decide) s29 s19 dX10_change_88 ?_
                refine go_aload_n 0 dX10_change_89 rfl rfl ?_
                refine go_iload_n 1 dX10_change_90 rfl rfl ?_
                refine go_iload_n 2 dX10_change_91 rfl rfl ?_
                refine go_vI (M := MX10_bestOf) [vI v1, vI v2] [] mv_X10_308 (hL.1 107 _ rfl) rfl (by decide) ⟨Nat.le_of_ble_eq_true rfl, Nat.le_of_ble_eq_true rfl⟩ ⟨Nat.le_refl _, Nat.le_refl _⟩ rfl rfl (Nat.le_of_ble_eq_true rfl) dX10_change_92 h (fun r31 D31 h => ?_)
                obtain ⟨s32, h⟩ := h
                refine go_istore [1, 2, 3, 4, 5, 6, 7, 0] (L' := [(0, vR E 107), (1, vI v1), (2, vI v2), (3, vI v3), (4, vI v4), (5, vI r26), (6, vI (D26 108 ((58 + (5 * v3)) + 4))), (7, vI r31)]) dX10_change_95 (by decide) rfl ?_
                refine go_aload_n 0 dX10_change_97 rfl rfl ?_
                refine go_getR 0 f_X10_7 rfl (hL.1 107 _ rfl) (hL.2.1 107 0 _ rfl (by decide)) dX10_change_98 ?_
                refine go_bipush dX10_change_101 (by decide) ?_
                refine go_iconst dX10_change_103 ?_
                refine go_iload_n 3 dX10_change_104 rfl rfl ?_
                refine go_imul dX10_change_105 ?_
                refine go_iadd dX10_change_106 ?_
                refine go_iconst dX10_change_107 ?_
                refine go_iadd dX10_change_108 ?_
                refine go_iload 6 dX10_change_109 rfl ?_
                refine go_iastore (hL.1 108 _ rfl) (b := 500) rfl (by decide) s29 s32.1 dX10_change_111 ?_
                refine go_aload_n 0 dX10_change_112 rfl rfl ?_
                refine go_iload 7 dX10_change_113 rfl ?_
                refine go_iload 5 dX10_change_115 rfl ?_
                refine go_icmp_eq 124 dX10_change_117 (by decide) s32.2 s27 (fun c33 => ?_) (fun c33 => ?_)
                · have h := h.1 c33
                  refine go_iconst dX10_change_124 ?_
                  refine go_vIp (M := MX10_gives) [vI 0] [] mv_X10_204 (hL.1 107 _ rfl) rfl (by decide) ⟨Nat.le_of_ble_eq_true rfl, Nat.le_of_ble_eq_true rfl⟩ ⟨Nat.le_refl _, Nat.le_refl _⟩ rfl rfl (Nat.le_of_ble_eq_true rfl) dX10_change_125 (p_X10_gives hL) ?_
                  exact go_ireturn (Nat.le_refl _) (Nat.le_refl _) rfl dX10_change_128 h
                · have h := h.2 c33
                  refine go_iconst dX10_change_120 ?_
                  refine go_goto 125 dX10_change_121 (by decide) ?_
                  refine go_vIp (M := MX10_gives) [vI 1] [] mv_X10_204 (hL.1 107 _ rfl) rfl (by decide) ⟨Nat.le_of_ble_eq_true rfl, Nat.le_of_ble_eq_true rfl⟩ ⟨Nat.le_refl _, Nat.le_refl _⟩ rfl rfl (Nat.le_of_ble_eq_true rfl) dX10_change_125 (p_X10_gives hL) ?_
                  exact go_ireturn (Nat.le_refl _) (Nat.le_refl _) rfl dX10_change_128 h
              · have h := h.2 c28
                refine go_aload_n 0 dX10_change_59 rfl rfl ?_
                refine go_bipush dX10_change_60 (by decide) ?_
                refine go_vIp (M := MX10_refuse) [vI 6] [] mv_X10_194 (hL.1 107 _ rfl) rfl (by decide) ⟨Nat.le_of_ble_eq_true rfl, Nat.le_of_ble_eq_true rfl⟩ ⟨Nat.le_refl _, Nat.le_refl _⟩ rfl rfl (Nat.le_of_ble_eq_true rfl) dX10_change_62 (p_X10_refuse hL (by decide)) ?_
                exact go_ireturn (Nat.le_refl _) (Nat.le_refl _) rfl dX10_change_65 h
            · have h := h.2 c24
              refine go_aload_n 0 dX10_change_39 rfl rfl ?_
              refine go_iconst dX10_change_40 ?_
              refine go_vIp (M := MX10_refuse) [vI 1] [] mv_X10_194 (hL.1 107 _ rfl) rfl (by decide) ⟨Nat.le_of_ble_eq_true rfl, Nat.le_of_ble_eq_true rfl⟩ ⟨Nat.le_refl _, Nat.le_refl _⟩ rfl rfl (Nat.le_of_ble_eq_true rfl) dX10_change_41 (p_X10_refuse hL (by decide)) ?_
              exact go_ireturn (Nat.le_refl _) (Nat.le_refl _) rfl dX10_change_44 h
theorem s_X10_beside {l : Launch} {E : Ev} {Q : Int → Sh → Dm → Prop} {G : Sh} {D : Dm} (hL : Lay G) {v1 v2 v3 v4 v5 v6 : Int}  (h : ((-2147483648 ≤ v1 ∧ v1 < 2147483648)) ∧ ((¬ ((0 ≤ v1) ∧ (v1 < (D 108 2))) → Q 0 G (upd2 D 107 1 1)) ∧ (((0 ≤ v1) ∧ (v1 < (D 108 2))) → ((-2147483648 ≤ v2 ∧ v2 < 2147483648)) ∧ ((v2 < 0 → Q 0 G (upd2 D 107 1 1)) ∧ (0 ≤ v2 → ((999 < v2 → Q 0 G (upd2 D 107 1 1)) ∧ (v2 ≤ 999 → ((-2147483648 ≤ v3 ∧ v3 < 2147483648)) ∧ ((v3 = (-1) → ((-2147483648 ≤ v4 ∧ v4 < 2147483648)) ∧ ((v4 = (-1) → ((-2147483648 ≤ v5 ∧ v5 < 2147483648)) ∧ ((v5 < 0 → Q 0 G (upd2 D 107 1 1)) ∧ (0 ≤ v5 → ((99 < v5 → Q 0 G (upd2 D 107 1 1)) ∧ (v5 ≤ 99 → ((-2147483648 ≤ v6 ∧ v6 < 2147483648)) ∧ ((v6 < 0 → Q 0 G (upd2 D 107 1 1)) ∧ (0 ≤ v6 → ((v6 ≤ 99 → C0 l E MX10_held 0 [vR E 107, vI v1] G D (fun r33 D33 => C0 l E MX10_goesRound 2 [vR E 107, vI v1, vI r33] G D33 (fun r35 D35 => KX10_beside l E Q 99 [(0, vR E 107), (1, vI v1), (2, vI v2), (3, vI v3), (4, vI v4), (5, vI v5), (6, vI v6), (7, vI r33), (8, vI 0)] G D35))) ∧ (99 < v6 → Q 0 G (upd2 D 107 1 1)))))))))) ∧ (v4 ≠ (-1) → ((¬ ((0 ≤ v4) ∧ (v4 < (D 108 1))) → Q 0 G (upd2 D 107 1 1)) ∧ (((0 ≤ v4) ∧ (v4 < (D 108 1))) → ((-2147483648 ≤ v5 ∧ v5 < 2147483648)) ∧ ((v5 < 0 → Q 0 G (upd2 D 107 1 1)) ∧ (0 ≤ v5 → ((99 < v5 → Q 0 G (upd2 D 107 1 1)) ∧ (v5 ≤ 99 → ((-2147483648 ≤ v6 ∧ v6 < 2147483648)) ∧ ((v6 < 0 → Q 0 G (upd2 D 107 1 1)) ∧ (0 ≤ v6 → ((v6 ≤ 99 → C0 l E MX10_held 0 [vR E 107, vI v1] G D (fun r59 D59 => C0 l E MX10_goesRound 2 [vR E 107, vI v1, vI r59] G D59 (fun r61 D61 => KX10_beside l E Q 99 [(0, vR E 107), (1, vI v1), (2, vI v2), (3, vI v3), (4, vI v4), (5, vI v5), (6, vI v6), (7, vI r59), (8, vI 0)] G D61))) ∧ (99 < v6 → Q 0 G (upd2 D 107 1 1)))))))))))))) ∧ (v3 ≠ (-1) → ((¬ ((0 ≤ v3) ∧ (v3 < (D 108 2))) → Q 0 G (upd2 D 107 1 1)) ∧ (((0 ≤ v3) ∧ (v3 < (D 108 2))) → ((v3 = v1 → Q 0 G (upd2 D 107 1 1)) ∧ (v3 ≠ v1 → ((-2147483648 ≤ v4 ∧ v4 < 2147483648)) ∧ ((v4 = (-1) → ((-2147483648 ≤ v5 ∧ v5 < 2147483648)) ∧ ((v5 < 0 → Q 0 G (upd2 D 107 1 1)) ∧ (0 ≤ v5 → ((99 < v5 → Q 0 G (upd2 D 107 1 1)) ∧ (v5 ≤ 99 → ((-2147483648 ≤ v6 ∧ v6 < 2147483648)) ∧ ((v6 < 0 → Q 0 G (upd2 D 107 1 1)) ∧ (0 ≤ v6 → ((v6 ≤ 99 → C0 l E MX10_held 0 [vR E 107, vI v1] G D (fun r91 D91 => C0 l E MX10_goesRound 2 [vR E 107, vI v1, vI r91] G D91 (fun r93 D93 => KX10_beside l E Q 99 [(0, vR E 107), (1, vI v1), (2, vI v2), (3, vI v3), (4, vI v4), (5, vI v5), (6, vI v6), (7, vI r91), (8, vI 0)] G D93))) ∧ (99 < v6 → Q 0 G (upd2 D 107 1 1)))))))))) ∧ (v4 ≠ (-1) → ((¬ ((0 ≤ v4) ∧ (v4 < (D 108 1))) → Q 0 G (upd2 D 107 1 1)) ∧ (((0 ≤ v4) ∧ (v4 < (D 108 1))) → ((-2147483648 ≤ v5 ∧ v5 < 2147483648)) ∧ ((v5 < 0 → Q 0 G (upd2 D 107 1 1)) ∧ (0 ≤ v5 → ((99 < v5 → Q 0 G (upd2 D 107 1 1)) ∧ (v5 ≤ 99 → ((-2147483648 ≤ v6 ∧ v6 < 2147483648)) ∧ ((v6 < 0 → Q 0 G (upd2 D 107 1 1)) ∧ (0 ≤ v6 → ((v6 ≤ 99 → C0 l E MX10_held 0 [vR E 107, vI v1] G D (fun r117 D117 => C0 l E MX10_goesRound 2 [vR E 107, vI v1, vI r117] G D117 (fun r119 D119 => KX10_beside l E Q 99 [(0, vR E 107), (1, vI v1), (2, vI v2), (3, vI v3), (4, vI v4), (5, vI v5), (6, vI v6), (7, vI r117), (8, vI 0)] G D119))) ∧ (99 < v6 → Q 0 G (upd2 D 107 1 1)))))))))))))))))))))))))) : Ct l E MX10_beside 0 0 0 [vR E 107, vI v1, vI v2, vI v3, vI v4, vI v5, vI v6] G D Q := by
  refine Ct.of (by decide) (Nat.le_of_ble_eq_true rfl) ?_
  show KX10_beside l E Q 0 [(0, vR E 107), (1, vI v1), (2, vI v2), (3, vI v3), (4, vI v4), (5, vI v5), (6, vI v6)] G D
  obtain ⟨s1, h⟩ := h
  refine go_aload_n 0 dX10_beside_0 rfl rfl ?_
  refine go_iload_n 1 dX10_beside_1 rfl rfl ?_
  refine go_vIp (M := MX10_isFamily) [vI v1] [] mv_X10_223 (hL.1 107 _ rfl) rfl (by decide) ⟨Nat.le_of_ble_eq_true rfl, Nat.le_of_ble_eq_true rfl⟩ ⟨Nat.le_refl _, Nat.le_refl _⟩ rfl rfl (Nat.le_of_ble_eq_true rfl) dX10_beside_2 (p_X10_isFamily hL s1) ?_
  refine go_ifb_eq 76 dX10_beside_5 (by decide) (fun c3 => ?_) (fun c3 => ?_)
  · have h := h.1 c3
    refine go_aload_n 0 dX10_beside_76 rfl rfl ?_
    refine go_iconst dX10_beside_77 ?_
    refine go_vIp (M := MX10_is) [vI 1] [] mv_X10_88 (hL.1 107 _ rfl) rfl (by decide) ⟨Nat.le_of_ble_eq_true rfl, Nat.le_of_ble_eq_true rfl⟩ ⟨Nat.le_refl _, Nat.le_refl _⟩ rfl rfl (Nat.le_of_ble_eq_true rfl) dX10_beside_78 (p_X10_is hL (by decide)) ?_
    exact go_zreturn (Nat.le_refl _) (Nat.le_refl _) rfl (by decide) dX10_beside_81 h
  · have h := h.2 c3
    obtain ⟨s6, h⟩ := h
    refine go_iload_n 2 dX10_beside_8 rfl rfl ?_
    refine go_if_lt 76 dX10_beside_9 (by decide) s6 (fun c7 => ?_) (fun c7 => ?_)
    · have h := h.1 c7
      refine go_aload_n 0 dX10_beside_76 rfl rfl ?_
      refine go_iconst dX10_beside_77 ?_
      refine go_vIp (M := MX10_is) [vI 1] [] mv_X10_88 (hL.1 107 _ rfl) rfl (by decide) ⟨Nat.le_of_ble_eq_true rfl, Nat.le_of_ble_eq_true rfl⟩ ⟨Nat.le_refl _, Nat.le_refl _⟩ rfl rfl (Nat.le_of_ble_eq_true rfl) dX10_beside_78 (p_X10_is hL (by decide)) ?_
      exact go_zreturn (Nat.le_refl _) (Nat.le_refl _) rfl (by decide) dX10_beside_81 h
    · have h := h.2 c7
      refine go_iload_n 2 dX10_beside_12 rfl rfl ?_
      refine go_sipush dX10_beside_13 (by decide) ?_
      refine go_icmp_gt 76 dX10_beside_16 (by decide) s6 (by decide) (fun c11 => ?_) (fun c11 => ?_)
      · have h := h.1 c11
        refine go_aload_n 0 dX10_beside_76 rfl rfl ?_
        refine go_iconst dX10_beside_77 ?_
        refine go_vIp (M := MX10_is) [vI 1] [] mv_X10_88 (hL.1 107 _ rfl) rfl (by decide) ⟨Nat.le_of_ble_eq_true rfl, Nat.le_of_ble_eq_true rfl⟩ ⟨Nat.le_refl _, Nat.le_refl _⟩ rfl rfl (Nat.le_of_ble_eq_true rfl) dX10_beside_78 (p_X10_is hL (by decide)) ?_
        exact go_zreturn (Nat.le_refl _) (Nat.le_refl _) rfl (by decide) dX10_beside_81 h
      · have h := h.2 c11
        obtain ⟨s14, h⟩ := h
        refine go_iload_n 3 dX10_beside_19 rfl rfl ?_
        refine go_iconst dX10_beside_20 ?_
        refine go_icmp_eq 37 dX10_beside_21 (by decide) s14 (by decide) (fun c15 => ?_) (fun c15 => ?_)
        · have h := h.1 c15
          obtain ⟨s16, h⟩ := h
          refine go_iload 4 dX10_beside_37 rfl ?_
          refine go_iconst dX10_beside_39 ?_
          refine go_icmp_eq 52 dX10_beside_40 (by decide) s16 (by decide) (fun c17 => ?_) (fun c17 => ?_)
          · have h := h.1 c17
            obtain ⟨s18, h⟩ := h
            refine go_iload 5 dX10_beside_52 rfl ?_
            refine go_if_lt 76 dX10_beside_54 (by decide) s18 (fun c19 => ?_) (fun c19 => ?_)
            · have h := h.1 c19
              refine go_aload_n 0 dX10_beside_76 rfl rfl ?_
              refine go_iconst dX10_beside_77 ?_
              refine go_vIp (M := MX10_is) [vI 1] [] mv_X10_88 (hL.1 107 _ rfl) rfl (by decide) ⟨Nat.le_of_ble_eq_true rfl, Nat.le_of_ble_eq_true rfl⟩ ⟨Nat.le_refl _, Nat.le_refl _⟩ rfl rfl (Nat.le_of_ble_eq_true rfl) dX10_beside_78 (p_X10_is hL (by decide)) ?_
              exact go_zreturn (Nat.le_refl _) (Nat.le_refl _) rfl (by decide) dX10_beside_81 h
            · have h := h.2 c19
              refine go_iload 5 dX10_beside_57 rfl ?_
              refine go_bipush dX10_beside_59 (by decide) ?_
              refine go_icmp_gt 76 dX10_beside_61 (by decide) s18 (by decide) (fun c23 => ?_) (fun c23 => ?_)
              · have h := h.1 c23
                refine go_aload_n 0 dX10_beside_76 rfl rfl ?_
                refine go_iconst dX10_beside_77 ?_
                refine go_vIp (M := MX10_is) [vI 1] [] mv_X10_88 (hL.1 107 _ rfl) rfl (by decide) ⟨Nat.le_of_ble_eq_true rfl, Nat.le_of_ble_eq_true rfl⟩ ⟨Nat.le_refl _, Nat.le_refl _⟩ rfl rfl (Nat.le_of_ble_eq_true rfl) dX10_beside_78 (p_X10_is hL (by decide)) ?_
                exact go_zreturn (Nat.le_refl _) (Nat.le_refl _) rfl (by decide) dX10_beside_81 h
              · have h := h.2 c23
                obtain ⟨s26, h⟩ := h
                refine go_iload 6 dX10_beside_64 rfl ?_
                refine go_if_lt 76 dX10_beside_66 (by decide) s26 (fun c27 => ?_) (fun c27 => ?_)
                · have h := h.1 c27
                  refine go_aload_n 0 dX10_beside_76 rfl rfl ?_
                  refine go_iconst dX10_beside_77 ?_
                  refine go_vIp (M := MX10_is) [vI 1] [] mv_X10_88 (hL.1 107 _ rfl) rfl (by decide) ⟨Nat.le_of_ble_eq_true rfl, Nat.le_of_ble_eq_true rfl⟩ ⟨Nat.le_refl _, Nat.le_refl _⟩ rfl rfl (Nat.le_of_ble_eq_true rfl) dX10_beside_78 (p_X10_is hL (by decide)) ?_
                  exact go_zreturn (Nat.le_refl _) (Nat.le_refl _) rfl (by decide) dX10_beside_81 h
                · have h := h.2 c27
                  refine go_iload 6 dX10_beside_69 rfl ?_
                  refine go_bipush dX10_beside_71 (by decide) ?_
                  refine go_icmp_le 82 dX10_beside_73 (by decide) s26 (by decide) (fun c31 => ?_) (fun c31 => ?_)
                  · have h := h.1 c31
                    refine go_aload_n 0 dX10_beside_82 rfl rfl ?_
                    refine go_iload_n 1 dX10_beside_83 rfl rfl ?_
                    refine go_vI (M := MX10_held) [vI v1] [] mv_X10_229 (hL.1 107 _ rfl) rfl (by decide) ⟨Nat.le_of_ble_eq_true rfl, Nat.le_of_ble_eq_true rfl⟩ ⟨Nat.le_refl _, Nat.le_refl _⟩ rfl rfl (Nat.le_of_ble_eq_true rfl) dX10_beside_84 h (fun r33 D33 h => ?_)
                    refine go_istore [1, 2, 3, 4, 5, 6, 7, 0] (L' := [(0, vR E 107), (1, vI v1), (2, vI v2), (3, vI v3), (4, vI v4), (5, vI v5), (6, vI v6), (7, vI r33)]) dX10_beside_87 (by decide) rfl ?_
                    refine go_aload_n 0 dX10_beside_89 rfl rfl ?_
                    refine go_iload_n 1 dX10_beside_90 rfl rfl ?_
                    refine go_iload 7 dX10_beside_91 rfl ?_
                    refine go_vV (M := MX10_goesRound) [vI v1, vI r33] [] mv_X10_257 (hL.1 107 _ rfl) rfl (by decide) ⟨Nat.le_of_ble_eq_true rfl, Nat.le_of_ble_eq_true rfl⟩ ⟨Nat.le_refl _, Nat.le_refl _⟩ rfl rfl (Nat.le_of_ble_eq_true rfl) dX10_beside_93 h (fun r35 D35 h => ?_)
                    refine go_iconst dX10_beside_96 ?_
                    refine go_istore [1, 2, 3, 4, 5, 6, 7, 8, 0] (L' := [(0, vR E 107), (1, vI v1), (2, vI v2), (3, vI v3), (4, vI v4), (5, vI v5), (6, vI v6), (7, vI r33), (8, vI 0)]) dX10_beside_97 (by decide) rfl ?_
                    exact h
                  · have h := h.2 c31
                    refine go_aload_n 0 dX10_beside_76 rfl rfl ?_
                    refine go_iconst dX10_beside_77 ?_
                    refine go_vIp (M := MX10_is) [vI 1] [] mv_X10_88 (hL.1 107 _ rfl) rfl (by decide) ⟨Nat.le_of_ble_eq_true rfl, Nat.le_of_ble_eq_true rfl⟩ ⟨Nat.le_refl _, Nat.le_refl _⟩ rfl rfl (Nat.le_of_ble_eq_true rfl) dX10_beside_78 (p_X10_is hL (by decide)) ?_
                    exact go_zreturn (Nat.le_refl _) (Nat.le_refl _) rfl (by decide) dX10_beside_81 h
          · have h := h.2 c17
            refine go_aload_n 0 dX10_beside_43 rfl rfl ?_
            refine go_iload 4 dX10_beside_44 rfl ?_
            refine go_vIp (M := MX10_isHarm) [vI v4] [] mv_X10_216 (hL.1 107 _ rfl) rfl (by decide) ⟨Nat.le_of_ble_eq_true rfl, Nat.le_of_ble_eq_true rfl⟩ ⟨Nat.le_refl _, Nat.le_refl _⟩ rfl rfl (Nat.le_of_ble_eq_true rfl) dX10_beside_46 (p_X10_isHarm hL s16) ?_
            refine go_ifb_eq 76 dX10_beside_49 (by decide) (fun c41 => ?_) (fun c41 => ?_)
            · have h := h.1 c41
              refine go_aload_n 0 dX10_beside_76 rfl rfl ?_
              refine go_iconst dX10_beside_77 ?_
              refine go_vIp (M := MX10_is) [vI 1] [] mv_X10_88 (hL.1 107 _ rfl) rfl (by decide) ⟨Nat.le_of_ble_eq_true rfl, Nat.le_of_ble_eq_true rfl⟩ ⟨Nat.le_refl _, Nat.le_refl _⟩ rfl rfl (Nat.le_of_ble_eq_true rfl) dX10_beside_78 (p_X10_is hL (by decide)) ?_
              exact go_zreturn (Nat.le_refl _) (Nat.le_refl _) rfl (by decide) dX10_beside_81 h
            · have h := h.2 c41
              obtain ⟨s44, h⟩ := h
              refine go_iload 5 dX10_beside_52 rfl ?_
              refine go_if_lt 76 dX10_beside_54 (by decide) s44 (fun c45 => ?_) (fun c45 => ?_)
              · have h := h.1 c45
                refine go_aload_n 0 dX10_beside_76 rfl rfl ?_
                refine go_iconst dX10_beside_77 ?_
                refine go_vIp (M := MX10_is) [vI 1] [] mv_X10_88 (hL.1 107 _ rfl) rfl (by decide) ⟨Nat.le_of_ble_eq_true rfl, Nat.le_of_ble_eq_true rfl⟩ ⟨Nat.le_refl _, Nat.le_refl _⟩ rfl rfl (Nat.le_of_ble_eq_true rfl) dX10_beside_78 (p_X10_is hL (by decide)) ?_
                exact go_zreturn (Nat.le_refl _) (Nat.le_refl _) rfl (by decide) dX10_beside_81 h
              · have h := h.2 c45
                refine go_iload 5 dX10_beside_57 rfl ?_
                refine go_bipush dX10_beside_59 (by decide) ?_
                refine go_icmp_gt 76 dX10_beside_61 (by decide) s44 (by decide) (fun c49 => ?_) (fun c49 => ?_)
                · have h := h.1 c49
                  refine go_aload_n 0 dX10_beside_76 rfl rfl ?_
                  refine go_iconst dX10_beside_77 ?_
                  refine go_vIp (M := MX10_is) [vI 1] [] mv_X10_88 (hL.1 107 _ rfl) rfl (by decide) ⟨Nat.le_of_ble_eq_true rfl, Nat.le_of_ble_eq_true rfl⟩ ⟨Nat.le_refl _, Nat.le_refl _⟩ rfl rfl (Nat.le_of_ble_eq_true rfl) dX10_beside_78 (p_X10_is hL (by decide)) ?_
                  exact go_zreturn (Nat.le_refl _) (Nat.le_refl _) rfl (by decide) dX10_beside_81 h
                · have h := h.2 c49
                  obtain ⟨s52, h⟩ := h
                  refine go_iload 6 dX10_beside_64 rfl ?_
                  refine go_if_lt 76 dX10_beside_66 (by decide) s52 (fun c53 => ?_) (fun c53 => ?_)
                  · have h := h.1 c53
                    refine go_aload_n 0 dX10_beside_76 rfl rfl ?_
                    refine go_iconst dX10_beside_77 ?_
                    refine go_vIp (M := MX10_is) [vI 1] [] mv_X10_88 (hL.1 107 _ rfl) rfl (by decide) ⟨Nat.le_of_ble_eq_true rfl, Nat.le_of_ble_eq_true rfl⟩ ⟨Nat.le_refl _, Nat.le_refl _⟩ rfl rfl (Nat.le_of_ble_eq_true rfl) dX10_beside_78 (p_X10_is hL (by decide)) ?_
                    exact go_zreturn (Nat.le_refl _) (Nat.le_refl _) rfl (by decide) dX10_beside_81 h
                  · have h := h.2 c53
                    refine go_iload 6 dX10_beside_69 rfl ?_
                    refine go_bipush dX10_beside_71 (by decide) ?_
                    refine go_icmp_le 82 dX10_beside_73 (by decide) s52 (by decide) (fun c57 => ?_) (fun c57 => ?_)
                    · have h := h.1 c57
                      refine go_aload_n 0 dX10_beside_82 rfl rfl ?_
                      refine go_iload_n 1 dX10_beside_83 rfl rfl ?_
                      refine go_vI (M := MX10_held) [vI v1] [] mv_X10_229 (hL.1 107 _ rfl) rfl (by decide) ⟨Nat.le_of_ble_eq_true rfl, Nat.le_of_ble_eq_true rfl⟩ ⟨Nat.le_refl _, Nat.le_refl _⟩ rfl rfl (Nat.le_of_ble_eq_true rfl) dX10_beside_84 h (fun r59 D59 h => ?_)
                      refine go_istore [1, 2, 3, 4, 5, 6, 7, 0] (L' := [(0, vR E 107), (1, vI v1), (2, vI v2), (3, vI v3), (4, vI v4), (5, vI v5), (6, vI v6), (7, vI r59)]) dX10_beside_87 (by decide) rfl ?_
                      refine go_aload_n 0 dX10_beside_89 rfl rfl ?_
                      refine go_iload_n 1 dX10_beside_90 rfl rfl ?_
                      refine go_iload 7 dX10_beside_91 rfl ?_
                      refine go_vV (M := MX10_goesRound) [vI v1, vI r59] [] mv_X10_257 (hL.1 107 _ rfl) rfl (by decide) ⟨Nat.le_of_ble_eq_true rfl, Nat.le_of_ble_eq_true rfl⟩ ⟨Nat.le_refl _, Nat.le_refl _⟩ rfl rfl (Nat.le_of_ble_eq_true rfl) dX10_beside_93 h (fun r61 D61 h => ?_)
                      refine go_iconst dX10_beside_96 ?_
                      refine go_istore [1, 2, 3, 4, 5, 6, 7, 8, 0] (L' := [(0, vR E 107), (1, vI v1), (2, vI v2), (3, vI v3), (4, vI v4), (5, vI v5), (6, vI v6), (7, vI r59), (8, vI 0)]) dX10_beside_97 (by decide) rfl ?_
                      exact h
                    · have h := h.2 c57
                      refine go_aload_n 0 dX10_beside_76 rfl rfl ?_
                      refine go_iconst dX10_beside_77 ?_
                      refine go_vIp (M := MX10_is) [vI 1] [] mv_X10_88 (hL.1 107 _ rfl) rfl (by decide) ⟨Nat.le_of_ble_eq_true rfl, Nat.le_of_ble_eq_true rfl⟩ ⟨Nat.le_refl _, Nat.le_refl _⟩ rfl rfl (Nat.le_of_ble_eq_true rfl) dX10_beside_78 (p_X10_is hL (by decide)) ?_
                      exact go_zreturn (Nat.le_refl _) (Nat.le_refl _) rfl (by decide) dX10_beside_81 h
        · have h := h.2 c15
          refine go_aload_n 0 dX10_beside_24 rfl rfl ?_
          refine go_iload_n 3 dX10_beside_25 rfl rfl ?_
          refine go_vIp (M := MX10_isFamily) [vI v3] [] mv_X10_223 (hL.1 107 _ rfl) rfl (by decide) ⟨Nat.le_of_ble_eq_true rfl, Nat.le_of_ble_eq_true rfl⟩ ⟨Nat.le_refl _, Nat.le_refl _⟩ rfl rfl (Nat.le_of_ble_eq_true rfl) dX10_beside_26 (p_X10_isFamily hL s14) ?_
          refine go_ifb_eq 76 dX10_beside_29 (by decide) (fun c67 => ?_) (fun c67 => ?_)
          · have h := h.1 c67
            refine go_aload_n 0 dX10_beside_76 rfl rfl ?_
            refine go_iconst dX10_beside_77 ?_
            refine go_vIp (M := MX10_is) [vI 1] [] mv_X10_88 (hL.1 107 _ rfl) rfl (by decide) ⟨Nat.le_of_ble_eq_true rfl, Nat.le_of_ble_eq_true rfl⟩ ⟨Nat.le_refl _, Nat.le_refl _⟩ rfl rfl (Nat.le_of_ble_eq_true rfl) dX10_beside_78 (p_X10_is hL (by decide)) ?_
            exact go_zreturn (Nat.le_refl _) (Nat.le_refl _) rfl (by decide) dX10_beside_81 h
          · have h := h.2 c67
            refine go_iload_n 3 dX10_beside_32 rfl rfl ?_
            refine go_iload_n 1 dX10_beside_33 rfl rfl ?_
            refine go_icmp_eq 76 dX10_beside_34 (by decide) s14 s1 (fun c71 => ?_) (fun c71 => ?_)
            · have h := h.1 c71
              refine go_aload_n 0 dX10_beside_76 rfl rfl ?_
              refine go_iconst dX10_beside_77 ?_
              refine go_vIp (M := MX10_is) [vI 1] [] mv_X10_88 (hL.1 107 _ rfl) rfl (by decide) ⟨Nat.le_of_ble_eq_true rfl, Nat.le_of_ble_eq_true rfl⟩ ⟨Nat.le_refl _, Nat.le_refl _⟩ rfl rfl (Nat.le_of_ble_eq_true rfl) dX10_beside_78 (p_X10_is hL (by decide)) ?_
              exact go_zreturn (Nat.le_refl _) (Nat.le_refl _) rfl (by decide) dX10_beside_81 h
            · have h := h.2 c71
              obtain ⟨s74, h⟩ := h
              refine go_iload 4 dX10_beside_37 rfl ?_
              refine go_iconst dX10_beside_39 ?_
              refine go_icmp_eq 52 dX10_beside_40 (by decide) s74 (by decide) (fun c75 => ?_) (fun c75 => ?_)
              · have h := h.1 c75
                obtain ⟨s76, h⟩ := h
                refine go_iload 5 dX10_beside_52 rfl ?_
                refine go_if_lt 76 dX10_beside_54 (by decide) s76 (fun c77 => ?_) (fun c77 => ?_)
                · have h := h.1 c77
                  refine go_aload_n 0 dX10_beside_76 rfl rfl ?_
                  refine go_iconst dX10_beside_77 ?_
                  refine go_vIp (M := MX10_is) [vI 1] [] mv_X10_88 (hL.1 107 _ rfl) rfl (by decide) ⟨Nat.le_of_ble_eq_true rfl, Nat.le_of_ble_eq_true rfl⟩ ⟨Nat.le_refl _, Nat.le_refl _⟩ rfl rfl (Nat.le_of_ble_eq_true rfl) dX10_beside_78 (p_X10_is hL (by decide)) ?_
                  exact go_zreturn (Nat.le_refl _) (Nat.le_refl _) rfl (by decide) dX10_beside_81 h
                · have h := h.2 c77
                  refine go_iload 5 dX10_beside_57 rfl ?_
                  refine go_bipush dX10_beside_59 (by decide) ?_
                  refine go_icmp_gt 76 dX10_beside_61 (by decide) s76 (by decide) (fun c81 => ?_) (fun c81 => ?_)
                  · have h := h.1 c81
                    refine go_aload_n 0 dX10_beside_76 rfl rfl ?_
                    refine go_iconst dX10_beside_77 ?_
                    refine go_vIp (M := MX10_is) [vI 1] [] mv_X10_88 (hL.1 107 _ rfl) rfl (by decide) ⟨Nat.le_of_ble_eq_true rfl, Nat.le_of_ble_eq_true rfl⟩ ⟨Nat.le_refl _, Nat.le_refl _⟩ rfl rfl (Nat.le_of_ble_eq_true rfl) dX10_beside_78 (p_X10_is hL (by decide)) ?_
                    exact go_zreturn (Nat.le_refl _) (Nat.le_refl _) rfl (by decide) dX10_beside_81 h
                  · have h := h.2 c81
                    obtain ⟨s84, h⟩ := h
                    refine go_iload 6 dX10_beside_64 rfl ?_
                    refine go_if_lt 76 dX10_beside_66 (by decide) s84 (fun c85 => ?_) (fun c85 => ?_)
                    · have h := h.1 c85
                      refine go_aload_n 0 dX10_beside_76 rfl rfl ?_
                      refine go_iconst dX10_beside_77 ?_
                      refine go_vIp (M := MX10_is) [vI 1] [] mv_X10_88 (hL.1 107 _ rfl) rfl (by decide) ⟨Nat.le_of_ble_eq_true rfl, Nat.le_of_ble_eq_true rfl⟩ ⟨Nat.le_refl _, Nat.le_refl _⟩ rfl rfl (Nat.le_of_ble_eq_true rfl) dX10_beside_78 (p_X10_is hL (by decide)) ?_
                      exact go_zreturn (Nat.le_refl _) (Nat.le_refl _) rfl (by decide) dX10_beside_81 h
                    · have h := h.2 c85
                      refine go_iload 6 dX10_beside_69 rfl ?_
                      refine go_bipush dX10_beside_71 (by decide) ?_
                      refine go_icmp_le 82 dX10_beside_73 (by decide) s84 (by decide) (fun c89 => ?_) (fun c89 => ?_)
                      · have h := h.1 c89
                        refine go_aload_n 0 dX10_beside_82 rfl rfl ?_
                        refine go_iload_n 1 dX10_beside_83 rfl rfl ?_
                        refine go_vI (M := MX10_held) [vI v1] [] mv_X10_229 (hL.1 107 _ rfl) rfl (by decide) ⟨Nat.le_of_ble_eq_true rfl, Nat.le_of_ble_eq_true rfl⟩ ⟨Nat.le_refl _, Nat.le_refl _⟩ rfl rfl (Nat.le_of_ble_eq_true rfl) dX10_beside_84 h (fun r91 D91 h => ?_)
                        refine go_istore [1, 2, 3, 4, 5, 6, 7, 0] (L' := [(0, vR E 107), (1, vI v1), (2, vI v2), (3, vI v3), (4, vI v4), (5, vI v5), (6, vI v6), (7, vI r91)]) dX10_beside_87 (by decide) rfl ?_
                        refine go_aload_n 0 dX10_beside_89 rfl rfl ?_
                        refine go_iload_n 1 dX10_beside_90 rfl rfl ?_
                        refine go_iload 7 dX10_beside_91 rfl ?_
                        refine go_vV (M := MX10_goesRound) [vI v1, vI r91] [] mv_X10_257 (hL.1 107 _ rfl) rfl (by decide) ⟨Nat.le_of_ble_eq_true rfl, Nat.le_of_ble_eq_true rfl⟩ ⟨Nat.le_refl _, Nat.le_refl _⟩ rfl rfl (Nat.le_of_ble_eq_true rfl) dX10_beside_93 h (fun r93 D93 h => ?_)
                        refine go_iconst dX10_beside_96 ?_
                        refine go_istore [1, 2, 3, 4, 5, 6, 7, 8, 0] (L' := [(0, vR E 107), (1, vI v1), (2, vI v2), (3, vI v3), (4, vI v4), (5, vI v5), (6, vI v6), (7, vI r91), (8, vI 0)]) dX10_beside_97 (by decide) rfl ?_
                        exact h
                      · have h := h.2 c89
                        refine go_aload_n 0 dX10_beside_76 rfl rfl ?_
                        refine go_iconst dX10_beside_77 ?_
                        refine go_vIp (M := MX10_is) [vI 1] [] mv_X10_88 (hL.1 107 _ rfl) rfl (by decide) ⟨Nat.le_of_ble_eq_true rfl, Nat.le_of_ble_eq_true rfl⟩ ⟨Nat.le_refl _, Nat.le_refl _⟩ rfl rfl (Nat.le_of_ble_eq_true rfl) dX10_beside_78 (p_X10_is hL (by decide)) ?_
                        exact go_zreturn (Nat.le_refl _) (Nat.le_refl _) rfl (by decide) dX10_beside_81 h
              · have h := h.2 c75
                refine go_aload_n 0 dX10_beside_43 rfl rfl ?_
                refine go_iload 4 dX10_beside_44 rfl ?_
                refine go_vIp (M := MX10_isHarm) [vI v4] [] mv_X10_216 (hL.1 107 _ rfl) rfl (by decide) ⟨Nat.le_of_ble_eq_true rfl, Nat.le_of_ble_eq_true rfl⟩ ⟨Nat.le_refl _, Nat.le_refl _⟩ rfl rfl (Nat.le_of_ble_eq_true rfl) dX10_beside_46 (p_X10_isHarm hL s74) ?_
                refine go_ifb_eq 76 dX10_beside_49 (by decide) (fun c99 => ?_) (fun c99 => ?_)
                · have h := h.1 c99
                  refine go_aload_n 0 dX10_beside_76 rfl rfl ?_
                  refine go_iconst dX10_beside_77 ?_
                  refine go_vIp (M := MX10_is) [vI 1] [] mv_X10_88 (hL.1 107 _ rfl) rfl (by decide) ⟨Nat.le_of_ble_eq_true rfl, Nat.le_of_ble_eq_true rfl⟩ ⟨Nat.le_refl _, Nat.le_refl _⟩ rfl rfl (Nat.le_of_ble_eq_true rfl) dX10_beside_78 (p_X10_is hL (by decide)) ?_
                  exact go_zreturn (Nat.le_refl _) (Nat.le_refl _) rfl (by decide) dX10_beside_81 h
                · have h := h.2 c99
                  obtain ⟨s102, h⟩ := h
                  refine go_iload 5 dX10_beside_52 rfl ?_
                  refine go_if_lt 76 dX10_beside_54 (by decide) s102 (fun c103 => ?_) (fun c103 => ?_)
                  · have h := h.1 c103
                    refine go_aload_n 0 dX10_beside_76 rfl rfl ?_
                    refine go_iconst dX10_beside_77 ?_
                    refine go_vIp (M := MX10_is) [vI 1] [] mv_X10_88 (hL.1 107 _ rfl) rfl (by decide) ⟨Nat.le_of_ble_eq_true rfl, Nat.le_of_ble_eq_true rfl⟩ ⟨Nat.le_refl _, Nat.le_refl _⟩ rfl rfl (Nat.le_of_ble_eq_true rfl) dX10_beside_78 (p_X10_is hL (by decide)) ?_
                    exact go_zreturn (Nat.le_refl _) (Nat.le_refl _) rfl (by decide) dX10_beside_81 h
                  · have h := h.2 c103
                    refine go_iload 5 dX10_beside_57 rfl ?_
                    refine go_bipush dX10_beside_59 (by decide) ?_
                    refine go_icmp_gt 76 dX10_beside_61 (by decide) s102 (by decide) (fun c107 => ?_) (fun c107 => ?_)
                    · have h := h.1 c107
                      refine go_aload_n 0 dX10_beside_76 rfl rfl ?_
                      refine go_iconst dX10_beside_77 ?_
                      refine go_vIp (M := MX10_is) [vI 1] [] mv_X10_88 (hL.1 107 _ rfl) rfl (by decide) ⟨Nat.le_of_ble_eq_true rfl, Nat.le_of_ble_eq_true rfl⟩ ⟨Nat.le_refl _, Nat.le_refl _⟩ rfl rfl (Nat.le_of_ble_eq_true rfl) dX10_beside_78 (p_X10_is hL (by decide)) ?_
                      exact go_zreturn (Nat.le_refl _) (Nat.le_refl _) rfl (by decide) dX10_beside_81 h
                    · have h := h.2 c107
                      obtain ⟨s110, h⟩ := h
                      refine go_iload 6 dX10_beside_64 rfl ?_
                      refine go_if_lt 76 dX10_beside_66 (by decide) s110 (fun c111 => ?_) (fun c111 => ?_)
                      · have h := h.1 c111
                        refine go_aload_n 0 dX10_beside_76 rfl rfl ?_
                        refine go_iconst dX10_beside_77 ?_
                        refine go_vIp (M := MX10_is) [vI 1] [] mv_X10_88 (hL.1 107 _ rfl) rfl (by decide) ⟨Nat.le_of_ble_eq_true rfl, Nat.le_of_ble_eq_true rfl⟩ ⟨Nat.le_refl _, Nat.le_refl _⟩ rfl rfl (Nat.le_of_ble_eq_true rfl) dX10_beside_78 (p_X10_is hL (by decide)) ?_
                        exact go_zreturn (Nat.le_refl _) (Nat.le_refl _) rfl (by decide) dX10_beside_81 h
                      · have h := h.2 c111
                        refine go_iload 6 dX10_beside_69 rfl ?_
                        refine go_bipush dX10_beside_71 (by decide) ?_
                        refine go_icmp_le 82 dX10_beside_73 (by decide) s110 (by decide) (fun c115 => ?_) (fun c115 => ?_)
                        · have h := h.1 c115
                          refine go_aload_n 0 dX10_beside_82 rfl rfl ?_
                          refine go_iload_n 1 dX10_beside_83 rfl rfl ?_
                          refine go_vI (M := MX10_held) [vI v1] [] mv_X10_229 (hL.1 107 _ rfl) rfl (by decide) ⟨Nat.le_of_ble_eq_true rfl, Nat.le_of_ble_eq_true rfl⟩ ⟨Nat.le_refl _, Nat.le_refl _⟩ rfl rfl (Nat.le_of_ble_eq_true rfl) dX10_beside_84 h (fun r117 D117 h => ?_)
                          refine go_istore [1, 2, 3, 4, 5, 6, 7, 0] (L' := [(0, vR E 107), (1, vI v1), (2, vI v2), (3, vI v3), (4, vI v4), (5, vI v5), (6, vI v6), (7, vI r117)]) dX10_beside_87 (by decide) rfl ?_
                          refine go_aload_n 0 dX10_beside_89 rfl rfl ?_
                          refine go_iload_n 1 dX10_beside_90 rfl rfl ?_
                          refine go_iload 7 dX10_beside_91 rfl ?_
                          refine go_vV (M := MX10_goesRound) [vI v1, vI r117] [] mv_X10_257 (hL.1 107 _ rfl) rfl (by decide) ⟨Nat.le_of_ble_eq_true rfl, Nat.le_of_ble_eq_true rfl⟩ ⟨Nat.le_refl _, Nat.le_refl _⟩ rfl rfl (Nat.le_of_ble_eq_true rfl) dX10_beside_93 h (fun r119 D119 h => ?_)
                          refine go_iconst dX10_beside_96 ?_
                          refine go_istore [1, 2, 3, 4, 5, 6, 7, 8, 0] (L' := [(0, vR E 107), (1, vI v1), (2, vI v2), (3, vI v3), (4, vI v4), (5, vI v5), (6, vI v6), (7, vI r117), (8, vI 0)]) dX10_beside_97 (by decide) rfl ?_
                          exact h
                        · have h := h.2 c115
                          refine go_aload_n 0 dX10_beside_76 rfl rfl ?_
                          refine go_iconst dX10_beside_77 ?_
                          refine go_vIp (M := MX10_is) [vI 1] [] mv_X10_88 (hL.1 107 _ rfl) rfl (by decide) ⟨Nat.le_of_ble_eq_true rfl, Nat.le_of_ble_eq_true rfl⟩ ⟨Nat.le_refl _, Nat.le_refl _⟩ rfl rfl (Nat.le_of_ble_eq_true rfl) dX10_beside_78 (p_X10_is hL (by decide)) ?_
                          exact go_zreturn (Nat.le_refl _) (Nat.le_refl _) rfl (by decide) dX10_beside_81 h
theorem s_X10_beside_99 {l : Launch} {E : Ev} {Q : Int → Sh → Dm → Prop} {G : Sh} {D : Dm} (hL : Lay G) {v1 v2 v3 v4 v5 v6 v7 v8 : Int}  (h : ((-2147483648 ≤ v8 ∧ v8 < 2147483648)) ∧ (((iSl 1 (D 108 1)) ≤ v8 → ((-2147483648 ≤ v3 ∧ v3 < 2147483648)) ∧ ((v3 = (-1) → ((0 ≤ ((88 + (3 * v1)) + 2) ∧ ((88 + (3 * v1)) + 2) < 500)) ∧ KX10_beside l E Q 259 [(0, vR E 107), (1, vI v1), (2, vI v2), (3, vI v3), (4, vI v4), (5, vI v5), (6, vI v6), (7, vI v7), (8, vI (D 108 ((88 + (3 * v1)) + 2))), (9, vJ 0), (11, vI 0)] G D) ∧ (v3 ≠ (-1) → C0 l E MX10_held 0 [vR E 107, vI v3] G D (fun r9 D9 => C0 l E MX10_goesRound 2 [vR E 107, vI v3, vI r9] G D9 (fun r11 D11 => KX10_beside l E Q 204 [(0, vR E 107), (1, vI v1), (2, vI v2), (3, vI v3), (4, vI v4), (5, vI v5), (6, vI v6), (7, vI v7), (8, vI r9), (9, vI 0)] G D11))))) ∧ (v8 < (iSl 1 (D 108 1)) → C0 l E MX10_netOf 0 [vR E 107, vI v7, vI v8] G D (fun r14 D14 => ((0 ≤ v8 ∧ v8 < 64) ∧ (-2147483648 ≤ r14 ∧ r14 < 2147483648) ∧ (-2147483648 ≤ v4 ∧ v4 < 2147483648)) ∧ ((v4 = (-1) → KX10_beside l E Q 99 [(0, vR E 107), (1, vI v1), (2, vI v2), (3, vI v3), (4, vI v4), (5, vI v5), (6, vI v6), (7, vI v7), (8, vI (v8 + 1))] G (upd2 (upd2 D14 117 v8 r14) 118 v8 0)) ∧ (v4 ≠ (-1) → ((-2147483648 ≤ (r14 - v5) ∧ (r14 - v5) < 2147483648)) ∧ (((iA (iSr v8 v4) 1) ≠ 1 → ((-2147483648 ≤ ((max 0 (r14 - v5)) + 0) ∧ ((max 0 (r14 - v5)) + 0) < 2147483648)) ∧ KX10_beside l E Q 99 [(0, vR E 107), (1, vI v1), (2, vI v2), (3, vI v3), (4, vI v4), (5, vI v5), (6, vI v6), (7, vI v7), (8, vI (v8 + 1))] G (upd2 (upd2 (upd2 D14 117 v8 r14) 118 v8 0) 117 v8 ((max 0 (r14 - v5)) + 0))) ∧ ((iA (iSr v8 v4) 1) = 1 → ((-2147483648 ≤ ((max 0 (r14 - v5)) + v6) ∧ ((max 0 (r14 - v5)) + v6) < 2147483648)) ∧ KX10_beside l E Q 99 [(0, vR E 107), (1, vI v1), (2, vI v2), (3, vI v3), (4, vI v4), (5, vI v5), (6, vI v6), (7, vI v7), (8, vI (v8 + 1))] G (upd2 (upd2 (upd2 D14 117 v8 r14) 118 v8 0) 117 v8 ((max 0 (r14 - v5)) + v6)))))))))) : KX10_beside l E Q 99 [(0, vR E 107), (1, vI v1), (2, vI v2), (3, vI v3), (4, vI v4), (5, vI v5), (6, vI v6), (7, vI v7), (8, vI v8)] G D := by
  obtain ⟨s1, h⟩ := h
  refine go_iload 8 dX10_beside_99 rfl ?_
  refine go_aload_n 0 dX10_beside_101 rfl rfl ?_
  refine go_vIp (M := MX10_lots) [] [vI v8] mv_X10_260 (hL.1 107 _ rfl) rfl (by decide) ⟨Nat.le_of_ble_eq_true rfl, Nat.le_of_ble_eq_true rfl⟩ ⟨Nat.le_refl _, Nat.le_refl _⟩ rfl rfl (Nat.le_of_ble_eq_true rfl) dX10_beside_102 (p_X10_lots hL) ?_
  refine go_icmp_ge 182 dX10_beside_105 (by decide) s1 (r32 _) (fun c3 => ?_) (fun c3 => ?_)
  · have h := h.1 c3
    obtain ⟨s4, h⟩ := h
    refine go_iload_n 3 dX10_beside_182 rfl rfl ?_
    refine go_iconst dX10_beside_183 ?_
    refine go_icmp_eq 245 dX10_beside_184 (by decide) s4 (by decide) (fun c5 => ?_) (fun c5 => ?_)
    · have h := h.1 c5
      obtain ⟨s6, h⟩ := h
      refine go_aload_n 0 dX10_beside_245 rfl rfl ?_
      refine go_iload_n 1 dX10_beside_246 rfl rfl ?_
      refine go_iconst dX10_beside_247 ?_
      refine go_vIp (M := MX10_ofFamily) [vI v1, vI 2] [] mv_X10_226 (hL.1 107 _ rfl) rfl (by decide) ⟨Nat.le_of_ble_eq_true rfl, Nat.le_of_ble_eq_true rfl⟩ ⟨Nat.le_refl _, Nat.le_refl _⟩ rfl rfl (Nat.le_of_ble_eq_true rfl) dX10_beside_248 (p_X10_ofFamily hL s6) ?_
      refine go_istore [1, 2, 3, 4, 5, 6, 7, 8, 0] (L' := [(0, vR E 107), (1, vI v1), (2, vI v2), (3, vI v3), (4, vI v4), (5, vI v5), (6, vI v6), (7, vI v7), (8, vI (D 108 ((88 + (3 * v1)) + 2)))]) dX10_beside_251 (by decide) rfl ?_
      refine go_lconst (x := 0) dX10_beside_253 rfl ?_
      refine go_lstore [1, 2, 3, 4, 5, 6, 7, 8, 9, 0] (L' := [(0, vR E 107), (1, vI v1), (2, vI v2), (3, vI v3), (4, vI v4), (5, vI v5), (6, vI v6), (7, vI v7), (8, vI (D 108 ((88 + (3 * v1)) + 2))), (9, vJ 0)]) dX10_beside_254 (by decide) rfl ?_
      refine go_iconst dX10_beside_256 ?_
      refine go_istore [1, 2, 3, 4, 5, 6, 7, 8, 9, 10, 0] (L' := [(0, vR E 107), (1, vI v1), (2, vI v2), (3, vI v3), (4, vI v4), (5, vI v5), (6, vI v6), (7, vI v7), (8, vI (D 108 ((88 + (3 * v1)) + 2))), (9, vJ 0), (11, vI 0)]) dX10_beside_257 (by decide) rfl ?_
      exact h
    · have h := h.2 c5
      refine go_aload_n 0 dX10_beside_187 rfl rfl ?_
      refine go_iload_n 3 dX10_beside_188 rfl rfl ?_
      refine go_vI (M := MX10_held) [vI v3] [] mv_X10_229 (hL.1 107 _ rfl) rfl (by decide) ⟨Nat.le_of_ble_eq_true rfl, Nat.le_of_ble_eq_true rfl⟩ ⟨Nat.le_refl _, Nat.le_refl _⟩ rfl rfl (Nat.le_of_ble_eq_true rfl) dX10_beside_189 h (fun r9 D9 h => ?_)
      refine go_istore [1, 2, 3, 4, 5, 6, 7, 8, 0] (L' := [(0, vR E 107), (1, vI v1), (2, vI v2), (3, vI v3), (4, vI v4), (5, vI v5), (6, vI v6), (7, vI v7), (8, vI r9)]) dX10_beside_192 (by decide) rfl ?_
      refine go_aload_n 0 dX10_beside_194 rfl rfl ?_
      refine go_iload_n 3 dX10_beside_195 rfl rfl ?_
      refine go_iload 8 dX10_beside_196 rfl ?_
      refine go_vV (M := MX10_goesRound) [vI v3, vI r9] [] mv_X10_257 (hL.1 107 _ rfl) rfl (by decide) ⟨Nat.le_of_ble_eq_true rfl, Nat.le_of_ble_eq_true rfl⟩ ⟨Nat.le_refl _, Nat.le_refl _⟩ rfl rfl (Nat.le_of_ble_eq_true rfl) dX10_beside_198 h (fun r11 D11 h => ?_)
      refine go_iconst dX10_beside_201 ?_
      refine go_istore [1, 2, 3, 4, 5, 6, 7, 8, 9, 0] (L' := [(0, vR E 107), (1, vI v1), (2, vI v2), (3, vI v3), (4, vI v4), (5, vI v5), (6, vI v6), (7, vI v7), (8, vI r9), (9, vI 0)]) dX10_beside_202 (by decide) rfl ?_
      exact h
  · have h := h.2 c3
    refine go_aload_n 0 dX10_beside_108 rfl rfl ?_
    refine go_getR 25 f_X10_53 rfl (hL.1 107 _ rfl) (hL.2.1 107 25 _ rfl (by decide)) dX10_beside_109 ?_
    refine go_iload 8 dX10_beside_112 rfl ?_
    refine go_aload_n 0 dX10_beside_114 rfl rfl ?_
    refine go_iload 7 dX10_beside_115 rfl ?_
    refine go_iload 8 dX10_beside_117 rfl ?_
    refine go_vI (M := MX10_netOf) [vI v7, vI v8] [vI v8, vR E 117] mv_X10_267 (hL.1 107 _ rfl) rfl (by decide) ⟨Nat.le_of_ble_eq_true rfl, Nat.le_of_ble_eq_true rfl⟩ ⟨Nat.le_refl _, Nat.le_refl _⟩ rfl rfl (Nat.le_of_ble_eq_true rfl) dX10_beside_119 h (fun r14 D14 h => ?_)
    obtain ⟨s15, h⟩ := h
    refine go_iastore (hL.1 117 _ rfl) (b := 64) rfl (by decide) s15.1 s15.2.1 dX10_beside_122 ?_
    refine go_aload_n 0 dX10_beside_123 rfl rfl ?_
    refine go_getR 26 f_X10_56 rfl (hL.1 107 _ rfl) (hL.2.1 107 26 _ rfl (by decide)) dX10_beside_124 ?_
    refine go_iload 8 dX10_beside_127 rfl ?_
    refine go_iconst dX10_beside_129 ?_
    refine go_iastore (hL.1 118 _ rfl) (b := 64) rfl (by decide) s15.1 (by decide) dX10_beside_130 ?_
    refine go_iload 4 dX10_beside_131 rfl ?_
    refine go_iconst dX10_beside_133 ?_
    refine go_icmp_eq 176 dX10_beside_134 (by decide) s15.2.2 (by decide) (fun c16 => ?_) (fun c16 => ?_)
    · have h := h.1 c16
      refine go_iinc 8 [1, 2, 3, 4, 5, 6, 7, 8, 0] (L' := [(0, vR E 107), (1, vI v1), (2, vI v2), (3, vI v3), (4, vI v4), (5, vI v5), (6, vI v6), (7, vI v7), (8, vI (v8 + 1))]) dX10_beside_176 (by decide) rfl rfl ?_
      refine go_goto 99 dX10_beside_179 (by decide) ?_
      exact h
    · have h := h.2 c16
      obtain ⟨s18, h⟩ := h
      refine go_aload_n 0 dX10_beside_137 rfl rfl ?_
      refine go_getR 25 f_X10_53 rfl (hL.1 107 _ rfl) (hL.2.1 107 25 _ rfl (by decide)) dX10_beside_138 ?_
      refine go_iload 8 dX10_beside_141 rfl ?_
      refine go_iconst dX10_beside_143 ?_
      refine go_aload_n 0 dX10_beside_144 rfl rfl ?_
      refine go_getR 25 f_X10_53 rfl (hL.1 107 _ rfl) (hL.2.1 107 25 _ rfl (by decide)) dX10_beside_145 ?_
      refine go_iload 8 dX10_beside_148 rfl ?_
      refine go_iaload (hL.1 117 _ rfl) (b := 64) rfl (by decide) s15.1 dX10_beside_150 ?_
      refine go_eqI (y := r14) (by first | exact upd2_same _ _ _ _ | simp [upd2]) ?_
      refine go_iload 5 dX10_beside_151 rfl ?_
      refine go_isub dX10_beside_153 ?_
      refine go_mmax ma_X10_251 (by decide) s18 ⟨by decide, Nat.le_of_ble_eq_true rfl⟩ ⟨Nat.le_refl _, Nat.le_refl _⟩ dX10_beside_154 ?_
      refine go_iload 8 dX10_beside_157 rfl ?_
      refine go_iload 4 dX10_beside_159 rfl ?_
      refine go_ishr dX10_beside_161 ?_
      refine go_iconst dX10_beside_162 ?_
      refine go_iand dX10_beside_163 ?_
      refine go_iconst dX10_beside_164 ?_
      refine go_icmp_ne 173 dX10_beside_165 (by decide) (r32 _) (by decide) (fun c19 => ?_) (fun c19 => ?_)
      · have h := h.1 c19
        obtain ⟨s20, h⟩ := h
        refine go_iconst dX10_beside_173 ?_
        refine go_iadd dX10_beside_174 ?_
        refine go_iastore (hL.1 117 _ rfl) (b := 64) rfl (by decide) s15.1 s20 dX10_beside_175 ?_
        refine go_iinc 8 [1, 2, 3, 4, 5, 6, 7, 8, 0] (L' := [(0, vR E 107), (1, vI v1), (2, vI v2), (3, vI v3), (4, vI v4), (5, vI v5), (6, vI v6), (7, vI v7), (8, vI (v8 + 1))]) dX10_beside_176 (by decide) rfl rfl ?_
        refine go_goto 99 dX10_beside_179 (by decide) ?_
        exact h
      · have h := h.2 c19
        obtain ⟨s21, h⟩ := h
        refine go_iload 6 dX10_beside_168 rfl ?_
        refine go_goto 174 dX10_beside_170 (by decide) ?_
        refine go_iadd dX10_beside_174 ?_
        refine go_iastore (hL.1 117 _ rfl) (b := 64) rfl (by decide) s15.1 s21 dX10_beside_175 ?_
        refine go_iinc 8 [1, 2, 3, 4, 5, 6, 7, 8, 0] (L' := [(0, vR E 107), (1, vI v1), (2, vI v2), (3, vI v3), (4, vI v4), (5, vI v5), (6, vI v6), (7, vI v7), (8, vI (v8 + 1))]) dX10_beside_176 (by decide) rfl rfl ?_
        refine go_goto 99 dX10_beside_179 (by decide) ?_
        exact h
theorem s_X10_beside_204 {l : Launch} {E : Ev} {Q : Int → Sh → Dm → Prop} {G : Sh} {D : Dm} (hL : Lay G) {v1 v2 v3 v4 v5 v6 v7 v8 v9 : Int}  (h : ((-2147483648 ≤ v9 ∧ v9 < 2147483648)) ∧ (((iSl 1 (D 108 1)) ≤ v9 → ((0 ≤ ((88 + (3 * v1)) + 2) ∧ ((88 + (3 * v1)) + 2) < 500)) ∧ KX10_beside l E Q 259 [(0, vR E 107), (1, vI v1), (2, vI v2), (3, vI v3), (4, vI v4), (5, vI v5), (6, vI v6), (7, vI v7), (8, vI (D 108 ((88 + (3 * v1)) + 2))), (9, vJ 0), (11, vI 0)] G D) ∧ (v9 < (iSl 1 (D 108 1)) → C0 l E MX10_netOf 0 [vR E 107, vI v8, vI v9] G D (fun r7 D7 => ((0 ≤ ((88 + (3 * v3)) + 2) ∧ ((88 + (3 * v3)) + 2) < 500) ∧ (-2147483648 ≤ (r7 - (D7 108 ((88 + (3 * v3)) + 2))) ∧ (r7 - (D7 108 ((88 + (3 * v3)) + 2))) < 2147483648) ∧ (0 ≤ v9 ∧ v9 < 64) ∧ (-2147483648 ≤ (max 0 (r7 - (D7 108 ((88 + (3 * v3)) + 2)))) ∧ (max 0 (r7 - (D7 108 ((88 + (3 * v3)) + 2)))) < 2147483648)) ∧ KX10_beside l E Q 204 [(0, vR E 107), (1, vI v1), (2, vI v2), (3, vI v3), (4, vI v4), (5, vI v5), (6, vI v6), (7, vI v7), (8, vI v8), (9, vI (v9 + 1))] G (upd2 D7 118 v9 (max 0 (r7 - (D7 108 ((88 + (3 * v3)) + 2))))))))) : KX10_beside l E Q 204 [(0, vR E 107), (1, vI v1), (2, vI v2), (3, vI v3), (4, vI v4), (5, vI v5), (6, vI v6), (7, vI v7), (8, vI v8), (9, vI v9)] G D := by
  obtain ⟨s1, h⟩ := h
  refine go_iload 9 dX10_beside_204 rfl ?_
  refine go_aload_n 0 dX10_beside_206 rfl rfl ?_
  refine go_vIp (M := MX10_lots) [] [vI v9] mv_X10_260 (hL.1 107 _ rfl) rfl (by decide) ⟨Nat.le_of_ble_eq_true rfl, Nat.le_of_ble_eq_true rfl⟩ ⟨Nat.le_refl _, Nat.le_refl _⟩ rfl rfl (Nat.le_of_ble_eq_true rfl) dX10_beside_207 (p_X10_lots hL) ?_
  refine go_icmp_ge 245 dX10_beside_210 (by decide) s1 (r32 _) (fun c3 => ?_) (fun c3 => ?_)
  · have h := h.1 c3
    obtain ⟨s4, h⟩ := h
    refine go_aload_n 0 dX10_beside_245 rfl rfl ?_
    refine go_iload_n 1 dX10_beside_246 rfl rfl ?_
    refine go_iconst dX10_beside_247 ?_
    refine go_vIp (M := MX10_ofFamily) [vI v1, vI 2] [] mv_X10_226 (hL.1 107 _ rfl) rfl (by decide) ⟨Nat.le_of_ble_eq_true rfl, Nat.le_of_ble_eq_true rfl⟩ ⟨Nat.le_refl _, Nat.le_refl _⟩ rfl rfl (Nat.le_of_ble_eq_true rfl) dX10_beside_248 (p_X10_ofFamily hL s4) ?_
    refine go_istore [1, 2, 3, 4, 5, 6, 7, 8, 0, 9] (L' := [(0, vR E 107), (1, vI v1), (2, vI v2), (3, vI v3), (4, vI v4), (5, vI v5), (6, vI v6), (7, vI v7), (8, vI (D 108 ((88 + (3 * v1)) + 2))), (9, vI v9)]) dX10_beside_251 (by decide) rfl ?_
    refine go_lconst (x := 0) dX10_beside_253 rfl ?_
    refine go_lstore [1, 2, 3, 4, 5, 6, 7, 8, 9, 0] (L' := [(0, vR E 107), (1, vI v1), (2, vI v2), (3, vI v3), (4, vI v4), (5, vI v5), (6, vI v6), (7, vI v7), (8, vI (D 108 ((88 + (3 * v1)) + 2))), (9, vJ 0)]) dX10_beside_254 (by decide) rfl ?_
    refine go_iconst dX10_beside_256 ?_
    refine go_istore [1, 2, 3, 4, 5, 6, 7, 8, 9, 10, 0] (L' := [(0, vR E 107), (1, vI v1), (2, vI v2), (3, vI v3), (4, vI v4), (5, vI v5), (6, vI v6), (7, vI v7), (8, vI (D 108 ((88 + (3 * v1)) + 2))), (9, vJ 0), (11, vI 0)]) dX10_beside_257 (by decide) rfl ?_
    exact h
  · have h := h.2 c3
    refine go_aload_n 0 dX10_beside_213 rfl rfl ?_
    refine go_getR 26 f_X10_56 rfl (hL.1 107 _ rfl) (hL.2.1 107 26 _ rfl (by decide)) dX10_beside_214 ?_
    refine go_iload 9 dX10_beside_217 rfl ?_
    refine go_iconst dX10_beside_219 ?_
    refine go_aload_n 0 dX10_beside_220 rfl rfl ?_
    refine go_iload 8 dX10_beside_221 rfl ?_
    refine go_iload 9 dX10_beside_223 rfl ?_
    refine go_vI (M := MX10_netOf) [vI v8, vI v9] [vI 0, vI v9, vR E 118] mv_X10_267 (hL.1 107 _ rfl) rfl (by decide) ⟨Nat.le_of_ble_eq_true rfl, Nat.le_of_ble_eq_true rfl⟩ ⟨Nat.le_refl _, Nat.le_refl _⟩ rfl rfl (Nat.le_of_ble_eq_true rfl) dX10_beside_225 h (fun r7 D7 h => ?_)
    obtain ⟨s8, h⟩ := h
    refine go_aload_n 0 dX10_beside_228 rfl rfl ?_
    refine go_iload_n 3 dX10_beside_229 rfl rfl ?_
    refine go_iconst dX10_beside_230 ?_
    refine go_vIp (M := MX10_ofFamily) [vI v3, vI 2] [vI r7, vI 0, vI v9, vR E 118] mv_X10_226 (hL.1 107 _ rfl) rfl (by decide) ⟨Nat.le_of_ble_eq_true rfl, Nat.le_of_ble_eq_true rfl⟩ ⟨Nat.le_refl _, Nat.le_refl _⟩ rfl rfl (Nat.le_of_ble_eq_true rfl) dX10_beside_231 (p_X10_ofFamily hL s8.1) ?_
    refine go_isub dX10_beside_234 ?_
    refine go_mmax ma_X10_251 (by decide) s8.2.1 ⟨by decide, Nat.le_of_ble_eq_true rfl⟩ ⟨Nat.le_refl _, Nat.le_refl _⟩ dX10_beside_235 ?_
    refine go_iastore (hL.1 118 _ rfl) (b := 64) rfl (by decide) s8.2.2.1 s8.2.2.2 dX10_beside_238 ?_
    refine go_iinc 9 [1, 2, 3, 4, 5, 6, 7, 8, 9, 0] (L' := [(0, vR E 107), (1, vI v1), (2, vI v2), (3, vI v3), (4, vI v4), (5, vI v5), (6, vI v6), (7, vI v7), (8, vI v8), (9, vI (v9 + 1))]) dX10_beside_239 (by decide) rfl rfl ?_
    refine go_goto 204 dX10_beside_242 (by decide) ?_
    exact h
theorem s_X10_beside_259 {l : Launch} {E : Ev} {Q : Int → Sh → Dm → Prop} {G : Sh} {D : Dm} (hL : Lay G) {v1 v2 v3 v4 v5 v6 v7 v8 v9 v11 : Int}  (h : ((-2147483648 ≤ v11 ∧ v11 < 2147483648)) ∧ (((iSl 1 (D 108 1)) ≤ v11 → C0 l E MX10_allLots 1 [vR E 107] G D (fun r5 D5 => C0 l E MX10_allLots 1 [vR E 107] G D5 (fun r7 D7 => C0 l E MX10_tells 0 [vR E 107, vJ v9, vJ (r5 * r7)] G D7 (fun r9 D9 => ((r9 = 0 ∨ r9 = 1)) ∧ Q r9 G D9)))) ∧ (v11 < (iSl 1 (D 108 1)) → ((0 ≤ v11 ∧ v11 < 64) ∧ (-2147483648 ≤ ((D 117 v11) - v8) ∧ ((D 117 v11) - v8) < 2147483648) ∧ (-2147483648 ≤ v2 ∧ v2 < 2147483648) ∧ (-2147483648 ≤ (max 0 ((D 117 v11) - v8)) ∧ (max 0 ((D 117 v11) - v8)) < 2147483648)) ∧ KX10_beside l E Q 291 [(0, vR E 107), (1, vI v1), (2, vI v2), (3, vI v3), (4, vI v4), (5, vI v5), (6, vI v6), (7, vI v7), (8, vI v8), (9, vJ v9), (11, vI v11), (12, vI (min v2 (max 0 ((D 117 v11) - v8)))), (13, vI 0)] G D))) : KX10_beside l E Q 259 [(0, vR E 107), (1, vI v1), (2, vI v2), (3, vI v3), (4, vI v4), (5, vI v5), (6, vI v6), (7, vI v7), (8, vI v8), (9, vJ v9), (11, vI v11)] G D := by
  obtain ⟨s1, h⟩ := h
  refine go_iload 10 dX10_beside_259 rfl ?_
  refine go_aload_n 0 dX10_beside_261 rfl rfl ?_
  refine go_vIp (M := MX10_lots) [] [vI v11] mv_X10_260 (hL.1 107 _ rfl) rfl (by decide) ⟨Nat.le_of_ble_eq_true rfl, Nat.le_of_ble_eq_true rfl⟩ ⟨Nat.le_refl _, Nat.le_refl _⟩ rfl rfl (Nat.le_of_ble_eq_true rfl) dX10_beside_262 (p_X10_lots hL) ?_
  refine go_icmp_ge 359 dX10_beside_265 (by decide) s1 (r32 _) (fun c3 => ?_) (fun c3 => ?_)
  · have h := h.1 c3
    refine go_aload_n 0 dX10_beside_359 rfl rfl ?_
    refine go_lload 9 dX10_beside_360 rfl ?_
    refine go_aload_n 0 dX10_beside_362 rfl rfl ?_
    refine go_vJ (M := MX10_allLots) [] [vJ v9, vR E 107] mv_X10_288 (hL.1 107 _ rfl) rfl (by decide) ⟨Nat.le_of_ble_eq_true rfl, Nat.le_of_ble_eq_true rfl⟩ ⟨Nat.le_refl _, Nat.le_refl _⟩ rfl rfl (Nat.le_of_ble_eq_true rfl) dX10_beside_363 h (fun r5 D5 h => ?_)
    refine go_aload_n 0 dX10_beside_366 rfl rfl ?_
    refine go_vJ (M := MX10_allLots) [] [vJ r5, vJ v9, vR E 107] mv_X10_288 (hL.1 107 _ rfl) rfl (by decide) ⟨Nat.le_of_ble_eq_true rfl, Nat.le_of_ble_eq_true rfl⟩ ⟨Nat.le_refl _, Nat.le_refl _⟩ rfl rfl (Nat.le_of_ble_eq_true rfl) dX10_beside_367 h (fun r7 D7 h => ?_)
    refine go_lmul dX10_beside_370 ?_
    refine go_vI (M := MX10_tells) [vJ v9, vJ (r5 * r7)] [] mv_X10_291 (hL.1 107 _ rfl) rfl (by decide) ⟨Nat.le_of_ble_eq_true rfl, Nat.le_of_ble_eq_true rfl⟩ ⟨Nat.le_refl _, Nat.le_refl _⟩ rfl rfl (Nat.le_of_ble_eq_true rfl) dX10_beside_371 h (fun r9 D9 h => ?_)
    obtain ⟨s10, h⟩ := h
    exact go_zreturn (Nat.le_refl _) (Nat.le_refl _) rfl s10 dX10_beside_374 h
  · have h := h.2 c3
    obtain ⟨s11, h⟩ := h
    refine go_iload_n 2 dX10_beside_268 rfl rfl ?_
    refine go_iconst dX10_beside_269 ?_
    refine go_aload_n 0 dX10_beside_270 rfl rfl ?_
    refine go_getR 25 f_X10_53 rfl (hL.1 107 _ rfl) (hL.2.1 107 25 _ rfl (by decide)) dX10_beside_271 ?_
    refine go_iload 10 dX10_beside_274 rfl ?_
    refine go_iaload (hL.1 117 _ rfl) (b := 64) rfl (by decide) s11.1 dX10_beside_276 ?_
    refine go_iload 8 dX10_beside_277 rfl ?_
    refine go_isub dX10_beside_279 ?_
    refine go_mmax ma_X10_251 (by decide) s11.2.1 ⟨by decide, Nat.le_of_ble_eq_true rfl⟩ ⟨Nat.le_refl _, Nat.le_refl _⟩ dX10_beside_280 ?_
    refine go_mmin ma_X10_137 s11.2.2.1 s11.2.2.2 ⟨by decide, Nat.le_of_ble_eq_true rfl⟩ ⟨Nat.le_refl _, Nat.le_refl _⟩ dX10_beside_283 ?_
    refine go_istore [1, 2, 3, 4, 5, 6, 7, 8, 9, 10, 11, 0] (L' := [(0, vR E 107), (1, vI v1), (2, vI v2), (3, vI v3), (4, vI v4), (5, vI v5), (6, vI v6), (7, vI v7), (8, vI v8), (9, vJ v9), (11, vI v11), (12, vI (min v2 (max 0 ((D 117 v11) - v8))))]) dX10_beside_286 (by decide) rfl ?_
    refine go_iconst dX10_beside_288 ?_
    refine go_istore [1, 2, 3, 4, 5, 6, 7, 8, 9, 10, 11, 12, 0] (L' := [(0, vR E 107), (1, vI v1), (2, vI v2), (3, vI v3), (4, vI v4), (5, vI v5), (6, vI v6), (7, vI v7), (8, vI v8), (9, vJ v9), (11, vI v11), (12, vI (min v2 (max 0 ((D 117 v11) - v8)))), (13, vI 0)]) dX10_beside_289 (by decide) rfl ?_
    exact h
theorem s_X10_beside_291 {l : Launch} {E : Ev} {Q : Int → Sh → Dm → Prop} {G : Sh} {D : Dm} (hL : Lay G) {v1 v2 v3 v4 v5 v6 v7 v8 v9 v11 v12 v13 : Int}  (h : ((-2147483648 ≤ v13 ∧ v13 < 2147483648)) ∧ (((iSl 1 (D 108 1)) ≤ v13 → KX10_beside l E Q 259 [(0, vR E 107), (1, vI v1), (2, vI v2), (3, vI v3), (4, vI v4), (5, vI v5), (6, vI v6), (7, vI v7), (8, vI v8), (9, vJ v9), (11, vI (v11 + 1))] G D) ∧ (v13 < (iSl 1 (D 108 1)) → ((0 ≤ v13 ∧ v13 < 64) ∧ (-2147483648 ≤ v12 ∧ v12 < 2147483648) ∧ (-2147483648 ≤ (((D 117 v13) + (Int.tdiv v12 2)) + (D 118 v13)) ∧ (((D 117 v13) + (Int.tdiv v12 2)) + (D 118 v13)) < 2147483648) ∧ (-2147483648 ≤ v8 ∧ v8 < 2147483648)) ∧ ((v8 ≤ (((D 117 v13) + (Int.tdiv v12 2)) + (D 118 v13)) → KX10_beside l E Q 291 [(0, vR E 107), (1, vI v1), (2, vI v2), (3, vI v3), (4, vI v4), (5, vI v5), (6, vI v6), (7, vI v7), (8, vI v8), (9, vJ (v9 + 0)), (11, vI v11), (12, vI v12), (13, vI (v13 + 1))] G D) ∧ ((((D 117 v13) + (Int.tdiv v12 2)) + (D 118 v13)) < v8 → C0 l E MX10_weightOf 1 [vR E 107, vI v11] G D (fun r9 D9 => C0 l E MX10_weightOf 1 [vR E 107, vI v13] G D9 (fun r11 D11 => KX10_beside l E Q 291 [(0, vR E 107), (1, vI v1), (2, vI v2), (3, vI v3), (4, vI v4), (5, vI v5), (6, vI v6), (7, vI v7), (8, vI v8), (9, vJ (v9 + (r9 * r11))), (11, vI v11), (12, vI v12), (13, vI (v13 + 1))] G D11))))))) : KX10_beside l E Q 291 [(0, vR E 107), (1, vI v1), (2, vI v2), (3, vI v3), (4, vI v4), (5, vI v5), (6, vI v6), (7, vI v7), (8, vI v8), (9, vJ v9), (11, vI v11), (12, vI v12), (13, vI v13)] G D := by
  obtain ⟨s1, h⟩ := h
  refine go_iload 12 dX10_beside_291 rfl ?_
  refine go_aload_n 0 dX10_beside_293 rfl rfl ?_
  refine go_vIp (M := MX10_lots) [] [vI v13] mv_X10_260 (hL.1 107 _ rfl) rfl (by decide) ⟨Nat.le_of_ble_eq_true rfl, Nat.le_of_ble_eq_true rfl⟩ ⟨Nat.le_refl _, Nat.le_refl _⟩ rfl rfl (Nat.le_of_ble_eq_true rfl) dX10_beside_294 (p_X10_lots hL) ?_
  refine go_icmp_ge 353 dX10_beside_297 (by decide) s1 (r32 _) (fun c3 => ?_) (fun c3 => ?_)
  · have h := h.1 c3
    refine go_iinc 10 [1, 2, 3, 4, 5, 6, 7, 8, 9, 10, 0, 11, 12] (L' := [(0, vR E 107), (1, vI v1), (2, vI v2), (3, vI v3), (4, vI v4), (5, vI v5), (6, vI v6), (7, vI v7), (8, vI v8), (9, vJ v9), (11, vI (v11 + 1)), (12, vI v12), (13, vI v13)]) dX10_beside_353 (by decide) rfl rfl ?_
    refine go_goto 259 dX10_beside_356 (by decide) ?_
    refine go_sub [0, 1, 2, 3, 4, 5, 6, 7, 8, 9, 10] (L' := [(0, vR E 107), (1, vI v1), (2, vI v2), (3, vI v3), (4, vI v4), (5, vI v5), (6, vI v6), (7, vI v7), (8, vI v8), (9, vJ v9), (11, vI (v11 + 1))]) rfl ?_
    exact h
  · have h := h.2 c3
    obtain ⟨s5, h⟩ := h
    refine go_lload 9 dX10_beside_300 rfl ?_
    refine go_aload_n 0 dX10_beside_302 rfl rfl ?_
    refine go_getR 25 f_X10_53 rfl (hL.1 107 _ rfl) (hL.2.1 107 25 _ rfl (by decide)) dX10_beside_303 ?_
    refine go_iload 12 dX10_beside_306 rfl ?_
    refine go_iaload (hL.1 117 _ rfl) (b := 64) rfl (by decide) s5.1 dX10_beside_308 ?_
    refine go_iload 11 dX10_beside_309 rfl ?_
    refine go_iconst dX10_beside_311 ?_
    refine go_idiv ⟨s5.2.1, (by decide)⟩ dX10_beside_312 ?_
    refine go_iadd dX10_beside_313 ?_
    refine go_aload_n 0 dX10_beside_314 rfl rfl ?_
    refine go_getR 26 f_X10_56 rfl (hL.1 107 _ rfl) (hL.2.1 107 26 _ rfl (by decide)) dX10_beside_315 ?_
    refine go_iload 12 dX10_beside_318 rfl ?_
    refine go_iaload (hL.1 118 _ rfl) (b := 64) rfl (by decide) s5.1 dX10_beside_320 ?_
    refine go_iadd dX10_beside_321 ?_
    refine go_iload 8 dX10_beside_322 rfl ?_
    refine go_icmp_ge 343 dX10_beside_324 (by decide) s5.2.2.1 s5.2.2.2 (fun c6 => ?_) (fun c6 => ?_)
    · have h := h.1 c6
      refine go_lconst (x := 0) dX10_beside_343 rfl ?_
      refine go_ladd dX10_beside_344 ?_
      refine go_lstore [1, 2, 3, 4, 5, 6, 7, 8, 9, 0, 10, 11, 12] (L' := [(0, vR E 107), (1, vI v1), (2, vI v2), (3, vI v3), (4, vI v4), (5, vI v5), (6, vI v6), (7, vI v7), (8, vI v8), (9, vJ (v9 + 0)), (11, vI v11), (12, vI v12), (13, vI v13)]) dX10_beside_345 (by decide) rfl ?_
      refine go_iinc 12 [1, 2, 3, 4, 5, 6, 7, 8, 9, 10, 11, 12, 0] (L' := [(0, vR E 107), (1, vI v1), (2, vI v2), (3, vI v3), (4, vI v4), (5, vI v5), (6, vI v6), (7, vI v7), (8, vI v8), (9, vJ (v9 + 0)), (11, vI v11), (12, vI v12), (13, vI (v13 + 1))]) dX10_beside_347 (by decide) rfl rfl ?_
      refine go_goto 291 dX10_beside_350 (by decide) ?_
      exact h
    · have h := h.2 c6
      refine go_aload_n 0 dX10_beside_327 rfl rfl ?_
      refine go_iload 10 dX10_beside_328 rfl ?_
      refine go_vJ (M := MX10_weightOf) [vI v11] [vJ v9] mv_X10_263 (hL.1 107 _ rfl) rfl (by decide) ⟨Nat.le_of_ble_eq_true rfl, Nat.le_of_ble_eq_true rfl⟩ ⟨Nat.le_refl _, Nat.le_refl _⟩ rfl rfl (Nat.le_of_ble_eq_true rfl) dX10_beside_330 h (fun r9 D9 h => ?_)
      refine go_aload_n 0 dX10_beside_333 rfl rfl ?_
      refine go_iload 12 dX10_beside_334 rfl ?_
      refine go_vJ (M := MX10_weightOf) [vI v13] [vJ r9, vJ v9] mv_X10_263 (hL.1 107 _ rfl) rfl (by decide) ⟨Nat.le_of_ble_eq_true rfl, Nat.le_of_ble_eq_true rfl⟩ ⟨Nat.le_refl _, Nat.le_refl _⟩ rfl rfl (Nat.le_of_ble_eq_true rfl) dX10_beside_336 h (fun r11 D11 h => ?_)
      refine go_lmul dX10_beside_339 ?_
      refine go_goto 344 dX10_beside_340 (by decide) ?_
      refine go_ladd dX10_beside_344 ?_
      refine go_lstore [1, 2, 3, 4, 5, 6, 7, 8, 9, 0, 10, 11, 12] (L' := [(0, vR E 107), (1, vI v1), (2, vI v2), (3, vI v3), (4, vI v4), (5, vI v5), (6, vI v6), (7, vI v7), (8, vI v8), (9, vJ (v9 + (r9 * r11))), (11, vI v11), (12, vI v12), (13, vI v13)]) dX10_beside_345 (by decide) rfl ?_
      refine go_iinc 12 [1, 2, 3, 4, 5, 6, 7, 8, 9, 10, 11, 12, 0] (L' := [(0, vR E 107), (1, vI v1), (2, vI v2), (3, vI v3), (4, vI v4), (5, vI v5), (6, vI v6), (7, vI v7), (8, vI v8), (9, vJ (v9 + (r9 * r11))), (11, vI v11), (12, vI v12), (13, vI (v13 + 1))]) dX10_beside_347 (by decide) rfl rfl ?_
      refine go_goto 291 dX10_beside_350 (by decide) ?_
      exact h
theorem s_X10_grows {l : Launch} {E : Ev} {Q : Int → Sh → Dm → Prop} {G : Sh} {D : Dm} (hL : Lay G) {v1 v2 v3 v4 : Int}  (h : C0 l E MX10_worthOf 1 [vR E 107, vI v1, vI (iO (iA v2 (iX (iSl 1 v3) (-1))) (iSl 1 v4))] G D (fun r2 D2 => C0 l E MX10_worthOf 1 [vR E 107, vI v1, vI v2] G D2 (fun r4 D4 => ((-9223372036854775808 ≤ r2 ∧ r2 < 9223372036854775808) ∧ (-9223372036854775808 ≤ r4 ∧ r4 < 9223372036854775808)) ∧ ((r2 ≤ r4 → Q 0 G D4) ∧ (r4 < r2 → Q 1 G D4))))) : Ct l E MX10_grows 0 0 0 [vR E 107, vI v1, vI v2, vI v3, vI v4] G D Q := by
  refine Ct.of (by decide) (Nat.le_of_ble_eq_true rfl) ?_
  show KX10_grows l E Q 0 [(0, vR E 107), (1, vI v1), (2, vI v2), (3, vI v3), (4, vI v4)] G D
  refine go_aload_n 0 dX10_grows_0 rfl rfl ?_
  refine go_iload_n 1 dX10_grows_1 rfl rfl ?_
  refine go_iload_n 2 dX10_grows_2 rfl rfl ?_
  refine go_iconst dX10_grows_3 ?_
  refine go_iload_n 3 dX10_grows_4 rfl rfl ?_
  refine go_ishl dX10_grows_5 ?_
  refine go_iconst dX10_grows_6 ?_
  refine go_ixor dX10_grows_7 ?_
  refine go_iand dX10_grows_8 ?_
  refine go_iconst dX10_grows_9 ?_
  refine go_iload 4 dX10_grows_10 rfl ?_
  refine go_ishl dX10_grows_12 ?_
  refine go_ior dX10_grows_13 ?_
  refine go_vJ (M := MX10_worthOf) [vI v1, vI (iO (iA v2 (iX (iSl 1 v3) (-1))) (iSl 1 v4))] [] mv_X10_295 (hL.1 107 _ rfl) rfl (by decide) ⟨Nat.le_of_ble_eq_true rfl, Nat.le_of_ble_eq_true rfl⟩ ⟨Nat.le_refl _, Nat.le_refl _⟩ rfl rfl (Nat.le_of_ble_eq_true rfl) dX10_grows_14 h (fun r2 D2 h => ?_)
  refine go_aload_n 0 dX10_grows_17 rfl rfl ?_
  refine go_iload_n 1 dX10_grows_18 rfl rfl ?_
  refine go_iload_n 2 dX10_grows_19 rfl rfl ?_
  refine go_vJ (M := MX10_worthOf) [vI v1, vI v2] [vJ r2] mv_X10_295 (hL.1 107 _ rfl) rfl (by decide) ⟨Nat.le_of_ble_eq_true rfl, Nat.le_of_ble_eq_true rfl⟩ ⟨Nat.le_refl _, Nat.le_refl _⟩ rfl rfl (Nat.le_of_ble_eq_true rfl) dX10_grows_20 h (fun r4 D4 h => ?_)
  obtain ⟨s5, h⟩ := h
  refine go_lcmp_le 31 dX10_grows_23 dX10_grows_24 (by decide) s5.1 s5.2 (fun c6 => ?_) (fun c6 => ?_)
  · have h := h.1 c6
    refine go_iconst dX10_grows_31 ?_
    exact go_zreturn (Nat.le_refl _) (Nat.le_refl _) rfl (by decide) dX10_grows_32 h
  · have h := h.2 c6
    refine go_iconst dX10_grows_27 ?_
    refine go_goto 32 dX10_grows_28 (by decide) ?_
    exact go_zreturn (Nat.le_refl _) (Nat.le_refl _) rfl (by decide) dX10_grows_32 h
theorem s_X10_swapsOf {l : Launch} {E : Ev} {Q : Int → Sh → Dm → Prop} {G : Sh} {D : Dm} (hL : Lay G) {v1 v2 v3 : Int}  (h : C0 l E MX10_held 0 [vR E 107, vI v1] G D (fun r2 D2 => C0 l E MX10_held 0 [vR E 107, vI v2] G D2 (fun r4 D4 => KX10_swapsOf l E Q 20 [(0, vR E 107), (1, vI v1), (2, vI v2), (3, vI v3), (4, vI r2), (5, vI r4), (6, vI 0), (7, vI 0)] G D4))) : Ct l E MX10_swapsOf 0 0 0 [vR E 107, vI v1, vI v2, vI v3] G D Q := by
  refine Ct.of (by decide) (Nat.le_of_ble_eq_true rfl) ?_
  show KX10_swapsOf l E Q 0 [(0, vR E 107), (1, vI v1), (2, vI v2), (3, vI v3)] G D
  refine go_aload_n 0 dX10_swapsOf_0 rfl rfl ?_
  refine go_iload_n 1 dX10_swapsOf_1 rfl rfl ?_
  refine go_vI (M := MX10_held) [vI v1] [] mv_X10_229 (hL.1 107 _ rfl) rfl (by decide) ⟨Nat.le_of_ble_eq_true rfl, Nat.le_of_ble_eq_true rfl⟩ ⟨Nat.le_refl _, Nat.le_refl _⟩ rfl rfl (Nat.le_of_ble_eq_true rfl) dX10_swapsOf_2 h (fun r2 D2 h => ?_)
  refine go_istore [1, 2, 3, 4, 0] (L' := [(0, vR E 107), (1, vI v1), (2, vI v2), (3, vI v3), (4, vI r2)]) dX10_swapsOf_5 (by decide) rfl ?_
  refine go_aload_n 0 dX10_swapsOf_7 rfl rfl ?_
  refine go_iload_n 2 dX10_swapsOf_8 rfl rfl ?_
  refine go_vI (M := MX10_held) [vI v2] [] mv_X10_229 (hL.1 107 _ rfl) rfl (by decide) ⟨Nat.le_of_ble_eq_true rfl, Nat.le_of_ble_eq_true rfl⟩ ⟨Nat.le_refl _, Nat.le_refl _⟩ rfl rfl (Nat.le_of_ble_eq_true rfl) dX10_swapsOf_9 h (fun r4 D4 h => ?_)
  refine go_istore [1, 2, 3, 4, 5, 0] (L' := [(0, vR E 107), (1, vI v1), (2, vI v2), (3, vI v3), (4, vI r2), (5, vI r4)]) dX10_swapsOf_12 (by decide) rfl ?_
  refine go_iconst dX10_swapsOf_14 ?_
  refine go_istore [1, 2, 3, 4, 5, 6, 0] (L' := [(0, vR E 107), (1, vI v1), (2, vI v2), (3, vI v3), (4, vI r2), (5, vI r4), (6, vI 0)]) dX10_swapsOf_15 (by decide) rfl ?_
  refine go_iconst dX10_swapsOf_17 ?_
  refine go_istore [1, 2, 3, 4, 5, 6, 7, 0] (L' := [(0, vR E 107), (1, vI v1), (2, vI v2), (3, vI v3), (4, vI r2), (5, vI r4), (6, vI 0), (7, vI 0)]) dX10_swapsOf_18 (by decide) rfl ?_
  exact h
theorem s_X10_swapsOf_20 {l : Launch} {E : Ev} {Q : Int → Sh → Dm → Prop} {G : Sh} {D : Dm} (hL : Lay G) {v1 v2 v3 v4 v5 v6 v7 : Int}  (h : ((-2147483648 ≤ v7 ∧ v7 < 2147483648)) ∧ (((D 108 0) ≤ v7 → Q v6 G D) ∧ (v7 < (D 108 0) → KX10_swapsOf l E Q 34 [(0, vR E 107), (1, vI v1), (2, vI v2), (3, vI v3), (4, vI v4), (5, vI v5), (6, vI v6), (7, vI v7), (8, vI 0)] G D))) : KX10_swapsOf l E Q 20 [(0, vR E 107), (1, vI v1), (2, vI v2), (3, vI v3), (4, vI v4), (5, vI v5), (6, vI v6), (7, vI v7)] G D := by
  obtain ⟨s1, h⟩ := h
  refine go_iload 7 dX10_swapsOf_20 rfl ?_
  refine go_aload_n 0 dX10_swapsOf_22 rfl rfl ?_
  refine go_getR 0 f_X10_7 rfl (hL.1 107 _ rfl) (hL.2.1 107 0 _ rfl (by decide)) dX10_swapsOf_23 ?_
  refine go_iconst dX10_swapsOf_26 ?_
  refine go_iaload (hL.1 108 _ rfl) (b := 500) rfl (by decide) (by decide) dX10_swapsOf_27 ?_
  refine go_rngI (c := 108) (i := 0) (hL.1 108 _ rfl) rfl (fun (q2 : -2147483648 ≤ (D 108 0) ∧ (D 108 0) < 2147483648) => ?_)
  refine go_icmp_ge 129 dX10_swapsOf_28 (by decide) s1 q2 (fun c3 => ?_) (fun c3 => ?_)
  · have h := h.1 c3
    refine go_iload 6 dX10_swapsOf_129 rfl ?_
    exact go_ireturn (Nat.le_refl _) (Nat.le_refl _) rfl dX10_swapsOf_131 h
  · have h := h.2 c3
    refine go_iconst dX10_swapsOf_31 ?_
    refine go_istore [1, 2, 3, 4, 5, 6, 7, 8, 0] (L' := [(0, vR E 107), (1, vI v1), (2, vI v2), (3, vI v3), (4, vI v4), (5, vI v5), (6, vI v6), (7, vI v7), (8, vI 0)]) dX10_swapsOf_32 (by decide) rfl ?_
    exact h
theorem s_X10_swapsOf_34 {l : Launch} {E : Ev} {Q : Int → Sh → Dm → Prop} {G : Sh} {D : Dm} (hL : Lay G) {v1 v2 v3 v4 v5 v6 v7 v8 : Int}  (h : ((-2147483648 ≤ v8 ∧ v8 < 2147483648)) ∧ (((D 108 0) ≤ v8 → KX10_swapsOf l E Q 20 [(0, vR E 107), (1, vI v1), (2, vI v2), (3, vI v3), (4, vI v4), (5, vI v5), (6, vI v6), (7, vI (v7 + 1))] G D) ∧ (v8 < (D 108 0) → (((iA (iSr v4 v7) 1) = 0 → KX10_swapsOf l E Q 34 [(0, vR E 107), (1, vI v1), (2, vI v2), (3, vI v3), (4, vI v4), (5, vI v5), (6, vI v6), (7, vI v7), (8, vI (v8 + 1))] G D) ∧ ((iA (iSr v4 v7) 1) ≠ 0 → (((iA (iSr v5 v8) 1) = 0 → KX10_swapsOf l E Q 34 [(0, vR E 107), (1, vI v1), (2, vI v2), (3, vI v3), (4, vI v4), (5, vI v5), (6, vI v6), (7, vI v7), (8, vI (v8 + 1))] G D) ∧ ((iA (iSr v5 v8) 1) ≠ 0 → C0 l E MX10_grows 0 [vR E 107, vI v1, vI v4, vI v7, vI v8] G D (fun r12 D12 => ((-2147483648 ≤ r12 ∧ r12 < 2147483648)) ∧ ((r12 = 0 → KX10_swapsOf l E Q 34 [(0, vR E 107), (1, vI v1), (2, vI v2), (3, vI v3), (4, vI v4), (5, vI v5), (6, vI v6), (7, vI v7), (8, vI (v8 + 1))] G D12) ∧ (r12 ≠ 0 → C0 l E MX10_grows 0 [vR E 107, vI v2, vI v5, vI v8, vI v7] G D12 (fun r17 D17 => ((-2147483648 ≤ r17 ∧ r17 < 2147483648)) ∧ ((r17 ≠ 0 → ((-2147483648 ≤ v6 ∧ v6 < 2147483648) ∧ (-2147483648 ≤ v3 ∧ v3 < 2147483648)) ∧ ((v6 ≠ v3 → KX10_swapsOf l E Q 34 [(0, vR E 107), (1, vI v1), (2, vI v2), (3, vI v3), (4, vI v4), (5, vI v5), (6, vI (v6 + 1)), (7, vI v7), (8, vI (v8 + 1))] G D17) ∧ (v6 = v3 → ((-2147483648 ≤ v7 ∧ v7 < 2147483648)) ∧ KX10_swapsOf l E Q 34 [(0, vR E 107), (1, vI v1), (2, vI v2), (3, vI v3), (4, vI v4), (5, vI v5), (6, vI (v6 + 1)), (7, vI v7), (8, vI (v8 + 1))] G (upd2 (upd2 D17 107 27 v7) 107 28 v8)))) ∧ (r17 = 0 → KX10_swapsOf l E Q 34 [(0, vR E 107), (1, vI v1), (2, vI v2), (3, vI v3), (4, vI v4), (5, vI v5), (6, vI v6), (7, vI v7), (8, vI (v8 + 1))] G D17))))))))))))) : KX10_swapsOf l E Q 34 [(0, vR E 107), (1, vI v1), (2, vI v2), (3, vI v3), (4, vI v4), (5, vI v5), (6, vI v6), (7, vI v7), (8, vI v8)] G D := by
  obtain ⟨s1, h⟩ := h
  refine go_iload 8 dX10_swapsOf_34 rfl ?_
  refine go_aload_n 0 dX10_swapsOf_36 rfl rfl ?_
  refine go_getR 0 f_X10_7 rfl (hL.1 107 _ rfl) (hL.2.1 107 0 _ rfl (by decide)) dX10_swapsOf_37 ?_
  refine go_iconst dX10_swapsOf_40 ?_
  refine go_iaload (hL.1 108 _ rfl) (b := 500) rfl (by decide) (by decide) dX10_swapsOf_41 ?_
  refine go_rngI (c := 108) (i := 0) (hL.1 108 _ rfl) rfl (fun (q2 : -2147483648 ≤ (D 108 0) ∧ (D 108 0) < 2147483648) => ?_)
  refine go_icmp_ge 123 dX10_swapsOf_42 (by decide) s1 q2 (fun c3 => ?_) (fun c3 => ?_)
  · have h := h.1 c3
    refine go_iinc 7 [1, 2, 3, 4, 5, 6, 7, 0, 8] (L' := [(0, vR E 107), (1, vI v1), (2, vI v2), (3, vI v3), (4, vI v4), (5, vI v5), (6, vI v6), (7, vI (v7 + 1)), (8, vI v8)]) dX10_swapsOf_123 (by decide) rfl rfl ?_
    refine go_goto 20 dX10_swapsOf_126 (by decide) ?_
    refine go_sub [0, 1, 2, 3, 4, 5, 6, 7] (L' := [(0, vR E 107), (1, vI v1), (2, vI v2), (3, vI v3), (4, vI v4), (5, vI v5), (6, vI v6), (7, vI (v7 + 1))]) rfl ?_
    exact h
  · have h := h.2 c3
    refine go_iload 4 dX10_swapsOf_45 rfl ?_
    refine go_iload 7 dX10_swapsOf_47 rfl ?_
    refine go_ishr dX10_swapsOf_49 ?_
    refine go_iconst dX10_swapsOf_50 ?_
    refine go_iand dX10_swapsOf_51 ?_
    refine go_if_eq 117 dX10_swapsOf_52 (by decide) (r32 _) (fun c6 => ?_) (fun c6 => ?_)
    · have h := h.1 c6
      refine go_iinc 8 [1, 2, 3, 4, 5, 6, 7, 8, 0] (L' := [(0, vR E 107), (1, vI v1), (2, vI v2), (3, vI v3), (4, vI v4), (5, vI v5), (6, vI v6), (7, vI v7), (8, vI (v8 + 1))]) dX10_swapsOf_117 (by decide) rfl rfl ?_
      refine go_goto 34 dX10_swapsOf_120 (by decide) ?_
      exact h
    · have h := h.2 c6
      refine go_iload 5 dX10_swapsOf_55 rfl ?_
      refine go_iload 8 dX10_swapsOf_57 rfl ?_
      refine go_ishr dX10_swapsOf_59 ?_
      refine go_iconst dX10_swapsOf_60 ?_
      refine go_iand dX10_swapsOf_61 ?_
      refine go_if_eq 117 dX10_swapsOf_62 (by decide) (r32 _) (fun c9 => ?_) (fun c9 => ?_)
      · have h := h.1 c9
        refine go_iinc 8 [1, 2, 3, 4, 5, 6, 7, 8, 0] (L' := [(0, vR E 107), (1, vI v1), (2, vI v2), (3, vI v3), (4, vI v4), (5, vI v5), (6, vI v6), (7, vI v7), (8, vI (v8 + 1))]) dX10_swapsOf_117 (by decide) rfl rfl ?_
        refine go_goto 34 dX10_swapsOf_120 (by decide) ?_
        exact h
      · have h := h.2 c9
        refine go_aload_n 0 dX10_swapsOf_65 rfl rfl ?_
        refine go_iload_n 1 dX10_swapsOf_66 rfl rfl ?_
        refine go_iload 4 dX10_swapsOf_67 rfl ?_
        refine go_iload 7 dX10_swapsOf_69 rfl ?_
        refine go_iload 8 dX10_swapsOf_71 rfl ?_
        refine go_vI (M := MX10_grows) [vI v1, vI v4, vI v7, vI v8] [] mv_X10_311 (hL.1 107 _ rfl) rfl (by decide) ⟨Nat.le_of_ble_eq_true rfl, Nat.le_of_ble_eq_true rfl⟩ ⟨Nat.le_refl _, Nat.le_refl _⟩ rfl rfl (Nat.le_of_ble_eq_true rfl) dX10_swapsOf_73 h (fun r12 D12 h => ?_)
        obtain ⟨s13, h⟩ := h
        refine go_if_eq 117 dX10_swapsOf_76 (by decide) s13 (fun c14 => ?_) (fun c14 => ?_)
        · have h := h.1 c14
          refine go_iinc 8 [1, 2, 3, 4, 5, 6, 7, 8, 0] (L' := [(0, vR E 107), (1, vI v1), (2, vI v2), (3, vI v3), (4, vI v4), (5, vI v5), (6, vI v6), (7, vI v7), (8, vI (v8 + 1))]) dX10_swapsOf_117 (by decide) rfl rfl ?_
          refine go_goto 34 dX10_swapsOf_120 (by decide) ?_
          exact h
        · have h := h.2 c14
          refine go_aload_n 0 dX10_swapsOf_79 rfl rfl ?_
          refine go_iload_n 2 dX10_swapsOf_80 rfl rfl ?_
          refine go_iload 5 dX10_swapsOf_81 rfl ?_
          refine go_iload 8 dX10_swapsOf_83 rfl ?_
          refine go_iload 7 dX10_swapsOf_85 rfl ?_
          refine go_vI (M := MX10_grows) [vI v2, vI v5, vI v8, vI v7] [] mv_X10_311 (hL.1 107 _ rfl) rfl (by decide) ⟨Nat.le_of_ble_eq_true rfl, Nat.le_of_ble_eq_true rfl⟩ ⟨Nat.le_refl _, Nat.le_refl _⟩ rfl rfl (Nat.le_of_ble_eq_true rfl) dX10_swapsOf_87 h (fun r17 D17 h => ?_)
          obtain ⟨s18, h⟩ := h
          refine go_if_ne 96 dX10_swapsOf_90 (by decide) s18 (fun c19 => ?_) (fun c19 => ?_)
          · have h := h.1 c19
            obtain ⟨s20, h⟩ := h
            refine go_iload 6 dX10_swapsOf_96 rfl ?_
            refine go_iload_n 3 dX10_swapsOf_98 rfl rfl ?_
            refine go_icmp_ne 114 dX10_swapsOf_99 (by decide) s20.1 s20.2 (fun c21 => ?_) (fun c21 => ?_)
            · have h := h.1 c21
              refine go_iinc 6 [1, 2, 3, 4, 5, 6, 0, 7, 8] (L' := [(0, vR E 107), (1, vI v1), (2, vI v2), (3, vI v3), (4, vI v4), (5, vI v5), (6, vI (v6 + 1)), (7, vI v7), (8, vI v8)]) dX10_swapsOf_114 (by decide) rfl rfl ?_
              refine go_iinc 8 [1, 2, 3, 4, 5, 6, 7, 8, 0] (L' := [(0, vR E 107), (1, vI v1), (2, vI v2), (3, vI v3), (4, vI v4), (5, vI v5), (6, vI (v6 + 1)), (7, vI v7), (8, vI (v8 + 1))]) dX10_swapsOf_117 (by decide) rfl rfl ?_
              refine go_goto 34 dX10_swapsOf_120 (by decide) ?_
              exact h
            · have h := h.2 c21
              obtain ⟨s23, h⟩ := h
              refine go_aload_n 0 dX10_swapsOf_102 rfl rfl ?_
              refine go_iload 7 dX10_swapsOf_103 rfl ?_
              refine go_putI 27 (i := 27) s23 f_X10_315 rfl (hL.1 107 _ rfl) dX10_swapsOf_105 ?_
              refine go_aload_n 0 dX10_swapsOf_108 rfl rfl ?_
              refine go_iload 8 dX10_swapsOf_109 rfl ?_
              refine go_putI 28 (i := 28) s1 f_X10_318 rfl (hL.1 107 _ rfl) dX10_swapsOf_111 ?_
              refine go_iinc 6 [1, 2, 3, 4, 5, 6, 0, 7, 8] (L' := [(0, vR E 107), (1, vI v1), (2, vI v2), (3, vI v3), (4, vI v4), (5, vI v5), (6, vI (v6 + 1)), (7, vI v7), (8, vI v8)]) dX10_swapsOf_114 (by decide) rfl rfl ?_
              refine go_iinc 8 [1, 2, 3, 4, 5, 6, 7, 8, 0] (L' := [(0, vR E 107), (1, vI v1), (2, vI v2), (3, vI v3), (4, vI v4), (5, vI v5), (6, vI (v6 + 1)), (7, vI v7), (8, vI (v8 + 1))]) dX10_swapsOf_117 (by decide) rfl rfl ?_
              refine go_goto 34 dX10_swapsOf_120 (by decide) ?_
              exact h
          · have h := h.2 c19
            refine go_goto 117 dX10_swapsOf_93 (by decide) ?_
            refine go_iinc 8 [1, 2, 3, 4, 5, 6, 7, 8, 0] (L' := [(0, vR E 107), (1, vI v1), (2, vI v2), (3, vI v3), (4, vI v4), (5, vI v5), (6, vI v6), (7, vI v7), (8, vI (v8 + 1))]) dX10_swapsOf_117 (by decide) rfl rfl ?_
            refine go_goto 34 dX10_swapsOf_120 (by decide) ?_
            exact h
theorem s_X10_areTwo {l : Launch} {E : Ev} {Q : Int → Sh → Dm → Prop} {G : Sh} {D : Dm} (hL : Lay G) {v1 v2 : Int}  (h : ((-2147483648 ≤ v1 ∧ v1 < 2147483648)) ∧ ((¬ ((0 ≤ v1) ∧ (v1 < (D 108 2))) → Q 0 G D) ∧ (((0 ≤ v1) ∧ (v1 < (D 108 2))) → ((-2147483648 ≤ v2 ∧ v2 < 2147483648)) ∧ ((¬ ((0 ≤ v2) ∧ (v2 < (D 108 2))) → Q 0 G D) ∧ (((0 ≤ v2) ∧ (v2 < (D 108 2))) → ((v1 = v2 → Q 0 G D) ∧ (v1 ≠ v2 → Q 1 G D))))))) : Ct l E MX10_areTwo 0 0 0 [vR E 107, vI v1, vI v2] G D Q := by
  refine Ct.of (by decide) (Nat.le_of_ble_eq_true rfl) ?_
  show KX10_areTwo l E Q 0 [(0, vR E 107), (1, vI v1), (2, vI v2)] G D
  obtain ⟨s1, h⟩ := h
  refine go_aload_n 0 dX10_areTwo_0 rfl rfl ?_
  refine go_iload_n 1 dX10_areTwo_1 rfl rfl ?_
  refine go_vIp (M := MX10_isFamily) [vI v1] [] mv_X10_223 (hL.1 107 _ rfl) rfl (by decide) ⟨Nat.le_of_ble_eq_true rfl, Nat.le_of_ble_eq_true rfl⟩ ⟨Nat.le_refl _, Nat.le_refl _⟩ rfl rfl (Nat.le_of_ble_eq_true rfl) dX10_areTwo_2 (p_X10_isFamily hL s1) ?_
  refine go_ifb_eq 25 dX10_areTwo_5 (by decide) (fun c3 => ?_) (fun c3 => ?_)
  · have h := h.1 c3
    refine go_iconst dX10_areTwo_25 ?_
    exact go_zreturn (Nat.le_refl _) (Nat.le_refl _) rfl (by decide) dX10_areTwo_26 h
  · have h := h.2 c3
    obtain ⟨s5, h⟩ := h
    refine go_aload_n 0 dX10_areTwo_8 rfl rfl ?_
    refine go_iload_n 2 dX10_areTwo_9 rfl rfl ?_
    refine go_vIp (M := MX10_isFamily) [vI v2] [] mv_X10_223 (hL.1 107 _ rfl) rfl (by decide) ⟨Nat.le_of_ble_eq_true rfl, Nat.le_of_ble_eq_true rfl⟩ ⟨Nat.le_refl _, Nat.le_refl _⟩ rfl rfl (Nat.le_of_ble_eq_true rfl) dX10_areTwo_10 (p_X10_isFamily hL s5) ?_
    refine go_ifb_eq 25 dX10_areTwo_13 (by decide) (fun c7 => ?_) (fun c7 => ?_)
    · have h := h.1 c7
      refine go_iconst dX10_areTwo_25 ?_
      exact go_zreturn (Nat.le_refl _) (Nat.le_refl _) rfl (by decide) dX10_areTwo_26 h
    · have h := h.2 c7
      refine go_iload_n 1 dX10_areTwo_16 rfl rfl ?_
      refine go_iload_n 2 dX10_areTwo_17 rfl rfl ?_
      refine go_icmp_eq 25 dX10_areTwo_18 (by decide) s1 s5 (fun c10 => ?_) (fun c10 => ?_)
      · have h := h.1 c10
        refine go_iconst dX10_areTwo_25 ?_
        exact go_zreturn (Nat.le_refl _) (Nat.le_refl _) rfl (by decide) dX10_areTwo_26 h
      · have h := h.2 c10
        refine go_iconst dX10_areTwo_21 ?_
        refine go_goto 26 dX10_areTwo_22 (by decide) ?_
        exact go_zreturn (Nat.le_refl _) (Nat.le_refl _) rfl (by decide) dX10_areTwo_26 h
theorem p_X10_areTwo {l : Launch} {E : Ev} {G : Sh} {D : Dm} (hL : Lay G) {v1 v2 : Int}  (q0 : -2147483648 ≤ v1 ∧ v1 < 2147483648) (q1 : -2147483648 ≤ v2 ∧ v2 < 2147483648) : C0 l E MX10_areTwo 0 [vR E 107, vI v1, vI v2] G D (fun r D' => r = (if (((0 ≤ v1) ∧ (v1 < (D 108 2))) ∧ (((0 ≤ v2) ∧ (v2 < (D 108 2))) ∧ (v1 ≠ v2))) then 1 else 0) ∧ D' = D) := by
  refine s_X10_areTwo hL ?_
  refine ⟨q0, ?_⟩
  refine ⟨fun hc => ?_, fun hc => ?_⟩
  · refine ⟨rfl, ?_, rfl⟩
    (split <;> first | rfl | (exfalso; simp_all; done) | omega | simp_all)
  · refine ⟨q1, ?_⟩
    refine ⟨fun hc => ?_, fun hc => ?_⟩
    · refine ⟨rfl, ?_, rfl⟩
      (split <;> first | rfl | (exfalso; simp_all; done) | omega | simp_all)
    · refine ⟨fun hc => ?_, fun hc => ?_⟩
      · refine ⟨rfl, ?_, rfl⟩
        (split <;> first | rfl | (exfalso; simp_all; done) | omega | simp_all)
      · refine ⟨rfl, ?_, rfl⟩
        (split <;> first | rfl | (exfalso; simp_all; done) | omega | simp_all)
theorem s_X10_swaps {l : Launch} {E : Ev} {Q : Int → Sh → Dm → Prop} {G : Sh} {D : Dm} (hL : Lay G) {v1 v2 : Int}  (h : ((-2147483648 ≤ v1 ∧ v1 < 2147483648) ∧ (-2147483648 ≤ v2 ∧ v2 < 2147483648)) ∧ ((¬ (((0 ≤ v1) ∧ (v1 < (D 108 2))) ∧ (((0 ≤ v2) ∧ (v2 < (D 108 2))) ∧ (v1 ≠ v2))) → Q (-1) G (upd2 D 107 1 1)) ∧ ((((0 ≤ v1) ∧ (v1 < (D 108 2))) ∧ (((0 ≤ v2) ∧ (v2 < (D 108 2))) ∧ (v1 ≠ v2))) → C0 l E MX10_swapsOf 0 [vR E 107, vI v1, vI v2, vI (-1)] G D (fun r7 D7 => Q r7 G (upd2 D7 107 1 0))))) : Ct l E MX10_swaps 0 0 0 [vR E 107, vI v1, vI v2] G D Q := by
  refine Ct.of (by decide) (Nat.le_of_ble_eq_true rfl) ?_
  show KX10_swaps l E Q 0 [(0, vR E 107), (1, vI v1), (2, vI v2)] G D
  obtain ⟨s1, h⟩ := h
  refine go_aload_n 0 dX10_swaps_0 rfl rfl ?_
  refine go_iload_n 1 dX10_swaps_1 rfl rfl ?_
  refine go_iload_n 2 dX10_swaps_2 rfl rfl ?_
  refine go_vIp (M := MX10_areTwo) [vI v1, vI v2] [] mv_X10_321 (hL.1 107 _ rfl) rfl (by decide) ⟨Nat.le_of_ble_eq_true rfl, Nat.le_of_ble_eq_true rfl⟩ ⟨Nat.le_refl _, Nat.le_refl _⟩ rfl rfl (Nat.le_of_ble_eq_true rfl) dX10_swaps_3 (p_X10_areTwo hL s1.1 s1.2) ?_
  refine go_ifb_eq 23 dX10_swaps_6 (by decide) (fun c3 => ?_) (fun c3 => ?_)
  · have h := h.1 c3
    refine go_aload_n 0 dX10_swaps_23 rfl rfl ?_
    refine go_iconst dX10_swaps_24 ?_
    refine go_vIp (M := MX10_refuse) [vI 1] [] mv_X10_194 (hL.1 107 _ rfl) rfl (by decide) ⟨Nat.le_of_ble_eq_true rfl, Nat.le_of_ble_eq_true rfl⟩ ⟨Nat.le_refl _, Nat.le_refl _⟩ rfl rfl (Nat.le_of_ble_eq_true rfl) dX10_swaps_25 (p_X10_refuse hL (by decide)) ?_
    exact go_ireturn (Nat.le_refl _) (Nat.le_refl _) rfl dX10_swaps_28 h
  · have h := h.2 c3
    refine go_aload_n 0 dX10_swaps_9 rfl rfl ?_
    refine go_aload_n 0 dX10_swaps_10 rfl rfl ?_
    refine go_iload_n 1 dX10_swaps_11 rfl rfl ?_
    refine go_iload_n 2 dX10_swaps_12 rfl rfl ?_
    refine go_iconst dX10_swaps_13 ?_
    refine go_vI (M := MX10_swapsOf) [vI v1, vI v2, vI (-1)] [vR E 107] mv_X10_324 (hL.1 107 _ rfl) rfl (by decide) ⟨Nat.le_of_ble_eq_true rfl, Nat.le_of_ble_eq_true rfl⟩ ⟨Nat.le_refl _, Nat.le_refl _⟩ rfl rfl (Nat.le_of_ble_eq_true rfl) dX10_swaps_14 h (fun r7 D7 h => ?_)
    refine go_vIp (M := MX10_gives) [vI r7] [] mv_X10_204 (hL.1 107 _ rfl) rfl (by decide) ⟨Nat.le_of_ble_eq_true rfl, Nat.le_of_ble_eq_true rfl⟩ ⟨Nat.le_refl _, Nat.le_refl _⟩ rfl rfl (Nat.le_of_ble_eq_true rfl) dX10_swaps_17 (p_X10_gives hL) ?_
    refine go_goto 28 dX10_swaps_20 (by decide) ?_
    exact go_ireturn (Nat.le_refl _) (Nat.le_refl _) rfl dX10_swaps_28 h
theorem s_X10_swap {l : Launch} {E : Ev} {Q : Int → Sh → Dm → Prop} {G : Sh} {D : Dm} (hL : Lay G) {v1 v2 v3 v4 : Int}  (h : ((-2147483648 ≤ v1 ∧ v1 < 2147483648) ∧ (-2147483648 ≤ v2 ∧ v2 < 2147483648)) ∧ ((¬ (((0 ≤ v1) ∧ (v1 < (D 108 2))) ∧ (((0 ≤ v2) ∧ (v2 < (D 108 2))) ∧ (v1 ≠ v2))) → Q (-1) G (upd2 D 107 1 1)) ∧ ((((0 ≤ v1) ∧ (v1 < (D 108 2))) ∧ (((0 ≤ v2) ∧ (v2 < (D 108 2))) ∧ (v1 ≠ v2))) → ((-2147483648 ≤ v3 ∧ v3 < 2147483648)) ∧ ((v3 < 0 → Q (-1) G (upd2 D 107 1 1)) ∧ (0 ≤ v3 → ((-2147483648 ≤ v4 ∧ v4 < 2147483648)) ∧ ((v4 < 0 → Q (-1) G (upd2 D 107 1 1)) ∧ (0 ≤ v4 → ((v4 ≤ 1 → C0 l E MX10_swapsOf 0 [vR E 107, vI v1, vI v2, vI v3] G D (fun r17 D17 => ((-2147483648 ≤ r17 ∧ r17 < 2147483648)) ∧ ((v3 < r17 → ((v4 ≠ 0 → Q (D17 107 28) G (upd2 D17 107 1 0)) ∧ (v4 = 0 → Q (D17 107 27) G (upd2 D17 107 1 0)))) ∧ (r17 ≤ v3 → Q (-1) G (upd2 D17 107 1 6))))) ∧ (1 < v4 → Q (-1) G (upd2 D 107 1 1)))))))))) : Ct l E MX10_swap 0 0 0 [vR E 107, vI v1, vI v2, vI v3, vI v4] G D Q := by
  refine Ct.of (by decide) (Nat.le_of_ble_eq_true rfl) ?_
  show KX10_swap l E Q 0 [(0, vR E 107), (1, vI v1), (2, vI v2), (3, vI v3), (4, vI v4)] G D
  obtain ⟨s1, h⟩ := h
  refine go_aload_n 0 dX10_swap_0 rfl rfl ?_
  refine go_iload_n 1 dX10_swap_1 rfl rfl ?_
  refine go_iload_n 2 dX10_swap_2 rfl rfl ?_
  refine go_vIp (M := MX10_areTwo) [vI v1, vI v2] [] mv_X10_321 (hL.1 107 _ rfl) rfl (by decide) ⟨Nat.le_of_ble_eq_true rfl, Nat.le_of_ble_eq_true rfl⟩ ⟨Nat.le_refl _, Nat.le_refl _⟩ rfl rfl (Nat.le_of_ble_eq_true rfl) dX10_swap_3 (p_X10_areTwo hL s1.1 s1.2) ?_
  refine go_ifb_eq 24 dX10_swap_6 (by decide) (fun c3 => ?_) (fun c3 => ?_)
  · have h := h.1 c3
    refine go_aload_n 0 dX10_swap_24 rfl rfl ?_
    refine go_iconst dX10_swap_25 ?_
    refine go_vIp (M := MX10_refuse) [vI 1] [] mv_X10_194 (hL.1 107 _ rfl) rfl (by decide) ⟨Nat.le_of_ble_eq_true rfl, Nat.le_of_ble_eq_true rfl⟩ ⟨Nat.le_refl _, Nat.le_refl _⟩ rfl rfl (Nat.le_of_ble_eq_true rfl) dX10_swap_26 (p_X10_refuse hL (by decide)) ?_
    exact go_ireturn (Nat.le_refl _) (Nat.le_refl _) rfl dX10_swap_29 h
  · have h := h.2 c3
    obtain ⟨s6, h⟩ := h
    refine go_iload_n 3 dX10_swap_9 rfl rfl ?_
    refine go_if_lt 24 dX10_swap_10 (by decide) s6 (fun c7 => ?_) (fun c7 => ?_)
    · have h := h.1 c7
      refine go_aload_n 0 dX10_swap_24 rfl rfl ?_
      refine go_iconst dX10_swap_25 ?_
      refine go_vIp (M := MX10_refuse) [vI 1] [] mv_X10_194 (hL.1 107 _ rfl) rfl (by decide) ⟨Nat.le_of_ble_eq_true rfl, Nat.le_of_ble_eq_true rfl⟩ ⟨Nat.le_refl _, Nat.le_refl _⟩ rfl rfl (Nat.le_of_ble_eq_true rfl) dX10_swap_26 (p_X10_refuse hL (by decide)) ?_
      exact go_ireturn (Nat.le_refl _) (Nat.le_refl _) rfl dX10_swap_29 h
    · have h := h.2 c7
      obtain ⟨s10, h⟩ := h
      refine go_iload 4 dX10_swap_13 rfl ?_
      refine go_if_lt 24 dX10_swap_15 (by decide) s10 (fun c11 => ?_) (fun c11 => ?_)
      · have h := h.1 c11
        refine go_aload_n 0 dX10_swap_24 rfl rfl ?_
        refine go_iconst dX10_swap_25 ?_
        refine go_vIp (M := MX10_refuse) [vI 1] [] mv_X10_194 (hL.1 107 _ rfl) rfl (by decide) ⟨Nat.le_of_ble_eq_true rfl, Nat.le_of_ble_eq_true rfl⟩ ⟨Nat.le_refl _, Nat.le_refl _⟩ rfl rfl (Nat.le_of_ble_eq_true rfl) dX10_swap_26 (p_X10_refuse hL (by decide)) ?_
        exact go_ireturn (Nat.le_refl _) (Nat.le_refl _) rfl dX10_swap_29 h
      · have h := h.2 c11
        refine go_iload 4 dX10_swap_18 rfl ?_
        refine go_iconst dX10_swap_20 ?_
        refine go_icmp_le 30 dX10_swap_21 (by decide) s10 (by decide) (fun c15 => ?_) (fun c15 => ?_)
        · have h := h.1 c15
          refine go_iload_n 3 dX10_swap_30 rfl rfl ?_
          refine go_aload_n 0 dX10_swap_31 rfl rfl ?_
          refine go_iload_n 1 dX10_swap_32 rfl rfl ?_
          refine go_iload_n 2 dX10_swap_33 rfl rfl ?_
          refine go_iload_n 3 dX10_swap_34 rfl rfl ?_
          refine go_vI (M := MX10_swapsOf) [vI v1, vI v2, vI v3] [vI v3] mv_X10_324 (hL.1 107 _ rfl) rfl (by decide) ⟨Nat.le_of_ble_eq_true rfl, Nat.le_of_ble_eq_true rfl⟩ ⟨Nat.le_refl _, Nat.le_refl _⟩ rfl rfl (Nat.le_of_ble_eq_true rfl) dX10_swap_35 h (fun r17 D17 h => ?_)
          obtain ⟨s18, h⟩ := h
          refine go_icmp_lt 48 dX10_swap_38 (by decide) s6 s18 (fun c19 => ?_) (fun c19 => ?_)
          · have h := h.1 c19
            refine go_aload_n 0 dX10_swap_48 rfl rfl ?_
            refine go_iload 4 dX10_swap_49 rfl ?_
            refine go_if_ne 61 dX10_swap_51 (by decide) s10 (fun c21 => ?_) (fun c21 => ?_)
            · have h := h.1 c21
              refine go_aload_n 0 dX10_swap_61 rfl rfl ?_
              refine go_getI 28 (i := 28) f_X10_318 rfl (hL.1 107 _ rfl) dX10_swap_62 ?_
              refine go_vIp (M := MX10_gives) [vI (D17 107 28)] [] mv_X10_204 (hL.1 107 _ rfl) rfl (by decide) ⟨Nat.le_of_ble_eq_true rfl, Nat.le_of_ble_eq_true rfl⟩ ⟨Nat.le_refl _, Nat.le_refl _⟩ rfl rfl (Nat.le_of_ble_eq_true rfl) dX10_swap_65 (p_X10_gives hL) ?_
              exact go_ireturn (Nat.le_refl _) (Nat.le_refl _) rfl dX10_swap_68 h
            · have h := h.2 c21
              refine go_aload_n 0 dX10_swap_54 rfl rfl ?_
              refine go_getI 27 (i := 27) f_X10_315 rfl (hL.1 107 _ rfl) dX10_swap_55 ?_
              refine go_goto 65 dX10_swap_58 (by decide) ?_
              refine go_vIp (M := MX10_gives) [vI (D17 107 27)] [] mv_X10_204 (hL.1 107 _ rfl) rfl (by decide) ⟨Nat.le_of_ble_eq_true rfl, Nat.le_of_ble_eq_true rfl⟩ ⟨Nat.le_refl _, Nat.le_refl _⟩ rfl rfl (Nat.le_of_ble_eq_true rfl) dX10_swap_65 (p_X10_gives hL) ?_
              exact go_ireturn (Nat.le_refl _) (Nat.le_refl _) rfl dX10_swap_68 h
          · have h := h.2 c19
            refine go_aload_n 0 dX10_swap_41 rfl rfl ?_
            refine go_bipush dX10_swap_42 (by decide) ?_
            refine go_vIp (M := MX10_refuse) [vI 6] [] mv_X10_194 (hL.1 107 _ rfl) rfl (by decide) ⟨Nat.le_of_ble_eq_true rfl, Nat.le_of_ble_eq_true rfl⟩ ⟨Nat.le_refl _, Nat.le_refl _⟩ rfl rfl (Nat.le_of_ble_eq_true rfl) dX10_swap_44 (p_X10_refuse hL (by decide)) ?_
            exact go_ireturn (Nat.le_refl _) (Nat.le_refl _) rfl dX10_swap_47 h
        · have h := h.2 c15
          refine go_aload_n 0 dX10_swap_24 rfl rfl ?_
          refine go_iconst dX10_swap_25 ?_
          refine go_vIp (M := MX10_refuse) [vI 1] [] mv_X10_194 (hL.1 107 _ rfl) rfl (by decide) ⟨Nat.le_of_ble_eq_true rfl, Nat.le_of_ble_eq_true rfl⟩ ⟨Nat.le_refl _, Nat.le_refl _⟩ rfl rfl (Nat.le_of_ble_eq_true rfl) dX10_swap_26 (p_X10_refuse hL (by decide)) ?_
          exact go_ireturn (Nat.le_refl _) (Nat.le_refl _) rfl dX10_swap_29 h
theorem s_X10_ring {l : Launch} {E : Ev} {Q : Int → Sh → Dm → Prop} {G : Sh} {D : Dm} (hL : Lay G) {v1 v2 v3 v4 : Int}  (h : ((-2147483648 ≤ v1 ∧ v1 < 2147483648) ∧ (-2147483648 ≤ v2 ∧ v2 < 2147483648)) ∧ ((¬ (((0 ≤ v1) ∧ (v1 < (D 108 2))) ∧ (((0 ≤ v2) ∧ (v2 < (D 108 2))) ∧ (v1 ≠ v2))) → Q (-1) G (upd2 D 107 1 1)) ∧ ((((0 ≤ v1) ∧ (v1 < (D 108 2))) ∧ (((0 ≤ v2) ∧ (v2 < (D 108 2))) ∧ (v1 ≠ v2))) → ((-2147483648 ≤ v3 ∧ v3 < 2147483648)) ∧ ((¬ (((0 ≤ v2) ∧ (v2 < (D 108 2))) ∧ (((0 ≤ v3) ∧ (v3 < (D 108 2))) ∧ (v2 ≠ v3))) → Q (-1) G (upd2 D 107 1 1)) ∧ ((((0 ≤ v2) ∧ (v2 < (D 108 2))) ∧ (((0 ≤ v3) ∧ (v3 < (D 108 2))) ∧ (v2 ≠ v3))) → ((¬ (((0 ≤ v1) ∧ (v1 < (D 108 2))) ∧ (((0 ≤ v3) ∧ (v3 < (D 108 2))) ∧ (v1 ≠ v3))) → Q (-1) G (upd2 D 107 1 1)) ∧ ((((0 ≤ v1) ∧ (v1 < (D 108 2))) ∧ (((0 ≤ v3) ∧ (v3 < (D 108 2))) ∧ (v1 ≠ v3))) → ((-2147483648 ≤ v4 ∧ v4 < 2147483648)) ∧ ((v4 < 0 → Q (-1) G (upd2 D 107 1 1)) ∧ (0 ≤ v4 → ((v4 ≤ 2 → C0 l E MX10_held 0 [vR E 107, vI v1] G D (fun r23 D23 => C0 l E MX10_held 0 [vR E 107, vI v2] G D23 (fun r25 D25 => C0 l E MX10_held 0 [vR E 107, vI v3] G D25 (fun r27 D27 => KX10_ring l E Q 76 [(0, vR E 107), (1, vI v1), (2, vI v2), (3, vI v3), (4, vI v4), (5, vI r23), (6, vI r25), (7, vI r27), (8, vI (D27 108 0)), (9, vI 0)] G D27)))) ∧ (2 < v4 → Q (-1) G (upd2 D 107 1 1)))))))))))) : Ct l E MX10_ring 0 0 0 [vR E 107, vI v1, vI v2, vI v3, vI v4] G D Q := by
  refine Ct.of (by decide) (Nat.le_of_ble_eq_true rfl) ?_
  show KX10_ring l E Q 0 [(0, vR E 107), (1, vI v1), (2, vI v2), (3, vI v3), (4, vI v4)] G D
  obtain ⟨s1, h⟩ := h
  refine go_aload_n 0 dX10_ring_0 rfl rfl ?_
  refine go_iload_n 1 dX10_ring_1 rfl rfl ?_
  refine go_iload_n 2 dX10_ring_2 rfl rfl ?_
  refine go_vIp (M := MX10_areTwo) [vI v1, vI v2] [] mv_X10_321 (hL.1 107 _ rfl) rfl (by decide) ⟨Nat.le_of_ble_eq_true rfl, Nat.le_of_ble_eq_true rfl⟩ ⟨Nat.le_refl _, Nat.le_refl _⟩ rfl rfl (Nat.le_of_ble_eq_true rfl) dX10_ring_3 (p_X10_areTwo hL s1.1 s1.2) ?_
  refine go_ifb_eq 38 dX10_ring_6 (by decide) (fun c3 => ?_) (fun c3 => ?_)
  · have h := h.1 c3
    refine go_aload_n 0 dX10_ring_38 rfl rfl ?_
    refine go_iconst dX10_ring_39 ?_
    refine go_vIp (M := MX10_refuse) [vI 1] [] mv_X10_194 (hL.1 107 _ rfl) rfl (by decide) ⟨Nat.le_of_ble_eq_true rfl, Nat.le_of_ble_eq_true rfl⟩ ⟨Nat.le_refl _, Nat.le_refl _⟩ rfl rfl (Nat.le_of_ble_eq_true rfl) dX10_ring_40 (p_X10_refuse hL (by decide)) ?_
    exact go_ireturn (Nat.le_refl _) (Nat.le_refl _) rfl dX10_ring_43 h
  · have h := h.2 c3
    obtain ⟨s6, h⟩ := h
    refine go_aload_n 0 dX10_ring_9 rfl rfl ?_
    refine go_iload_n 2 dX10_ring_10 rfl rfl ?_
    refine go_iload_n 3 dX10_ring_11 rfl rfl ?_
    refine go_vIp (M := MX10_areTwo) [vI v2, vI v3] [] mv_X10_321 (hL.1 107 _ rfl) rfl (by decide) ⟨Nat.le_of_ble_eq_true rfl, Nat.le_of_ble_eq_true rfl⟩ ⟨Nat.le_refl _, Nat.le_refl _⟩ rfl rfl (Nat.le_of_ble_eq_true rfl) dX10_ring_12 (p_X10_areTwo hL s1.2 s6) ?_
    refine go_ifb_eq 38 dX10_ring_15 (by decide) (fun c8 => ?_) (fun c8 => ?_)
    · have h := h.1 c8
      refine go_aload_n 0 dX10_ring_38 rfl rfl ?_
      refine go_iconst dX10_ring_39 ?_
      refine go_vIp (M := MX10_refuse) [vI 1] [] mv_X10_194 (hL.1 107 _ rfl) rfl (by decide) ⟨Nat.le_of_ble_eq_true rfl, Nat.le_of_ble_eq_true rfl⟩ ⟨Nat.le_refl _, Nat.le_refl _⟩ rfl rfl (Nat.le_of_ble_eq_true rfl) dX10_ring_40 (p_X10_refuse hL (by decide)) ?_
      exact go_ireturn (Nat.le_refl _) (Nat.le_refl _) rfl dX10_ring_43 h
    · have h := h.2 c8
      refine go_aload_n 0 dX10_ring_18 rfl rfl ?_
      refine go_iload_n 1 dX10_ring_19 rfl rfl ?_
      refine go_iload_n 3 dX10_ring_20 rfl rfl ?_
      refine go_vIp (M := MX10_areTwo) [vI v1, vI v3] [] mv_X10_321 (hL.1 107 _ rfl) rfl (by decide) ⟨Nat.le_of_ble_eq_true rfl, Nat.le_of_ble_eq_true rfl⟩ ⟨Nat.le_refl _, Nat.le_refl _⟩ rfl rfl (Nat.le_of_ble_eq_true rfl) dX10_ring_21 (p_X10_areTwo hL s1.1 s6) ?_
      refine go_ifb_eq 38 dX10_ring_24 (by decide) (fun c13 => ?_) (fun c13 => ?_)
      · have h := h.1 c13
        refine go_aload_n 0 dX10_ring_38 rfl rfl ?_
        refine go_iconst dX10_ring_39 ?_
        refine go_vIp (M := MX10_refuse) [vI 1] [] mv_X10_194 (hL.1 107 _ rfl) rfl (by decide) ⟨Nat.le_of_ble_eq_true rfl, Nat.le_of_ble_eq_true rfl⟩ ⟨Nat.le_refl _, Nat.le_refl _⟩ rfl rfl (Nat.le_of_ble_eq_true rfl) dX10_ring_40 (p_X10_refuse hL (by decide)) ?_
        exact go_ireturn (Nat.le_refl _) (Nat.le_refl _) rfl dX10_ring_43 h
      · have h := h.2 c13
        obtain ⟨s16, h⟩ := h
        refine go_iload 4 dX10_ring_27 rfl ?_
        refine go_if_lt 38 dX10_ring_29 (by decide) s16 (fun c17 => ?_) (fun c17 => ?_)
        · have h := h.1 c17
          refine go_aload_n 0 dX10_ring_38 rfl rfl ?_
          refine go_iconst dX10_ring_39 ?_
          refine go_vIp (M := MX10_refuse) [vI 1] [] mv_X10_194 (hL.1 107 _ rfl) rfl (by decide) ⟨Nat.le_of_ble_eq_true rfl, Nat.le_of_ble_eq_true rfl⟩ ⟨Nat.le_refl _, Nat.le_refl _⟩ rfl rfl (Nat.le_of_ble_eq_true rfl) dX10_ring_40 (p_X10_refuse hL (by decide)) ?_
          exact go_ireturn (Nat.le_refl _) (Nat.le_refl _) rfl dX10_ring_43 h
        · have h := h.2 c17
          refine go_iload 4 dX10_ring_32 rfl ?_
          refine go_iconst dX10_ring_34 ?_
          refine go_icmp_le 44 dX10_ring_35 (by decide) s16 (by decide) (fun c21 => ?_) (fun c21 => ?_)
          · have h := h.1 c21
            refine go_aload_n 0 dX10_ring_44 rfl rfl ?_
            refine go_iload_n 1 dX10_ring_45 rfl rfl ?_
            refine go_vI (M := MX10_held) [vI v1] [] mv_X10_229 (hL.1 107 _ rfl) rfl (by decide) ⟨Nat.le_of_ble_eq_true rfl, Nat.le_of_ble_eq_true rfl⟩ ⟨Nat.le_refl _, Nat.le_refl _⟩ rfl rfl (Nat.le_of_ble_eq_true rfl) dX10_ring_46 h (fun r23 D23 h => ?_)
            refine go_istore [1, 2, 3, 4, 5, 0] (L' := [(0, vR E 107), (1, vI v1), (2, vI v2), (3, vI v3), (4, vI v4), (5, vI r23)]) dX10_ring_49 (by decide) rfl ?_
            refine go_aload_n 0 dX10_ring_51 rfl rfl ?_
            refine go_iload_n 2 dX10_ring_52 rfl rfl ?_
            refine go_vI (M := MX10_held) [vI v2] [] mv_X10_229 (hL.1 107 _ rfl) rfl (by decide) ⟨Nat.le_of_ble_eq_true rfl, Nat.le_of_ble_eq_true rfl⟩ ⟨Nat.le_refl _, Nat.le_refl _⟩ rfl rfl (Nat.le_of_ble_eq_true rfl) dX10_ring_53 h (fun r25 D25 h => ?_)
            refine go_istore [1, 2, 3, 4, 5, 6, 0] (L' := [(0, vR E 107), (1, vI v1), (2, vI v2), (3, vI v3), (4, vI v4), (5, vI r23), (6, vI r25)]) dX10_ring_56 (by decide) rfl ?_
            refine go_aload_n 0 dX10_ring_58 rfl rfl ?_
            refine go_iload_n 3 dX10_ring_59 rfl rfl ?_
            refine go_vI (M := MX10_held) [vI v3] [] mv_X10_229 (hL.1 107 _ rfl) rfl (by decide) ⟨Nat.le_of_ble_eq_true rfl, Nat.le_of_ble_eq_true rfl⟩ ⟨Nat.le_refl _, Nat.le_refl _⟩ rfl rfl (Nat.le_of_ble_eq_true rfl) dX10_ring_60 h (fun r27 D27 h => ?_)
            refine go_istore [1, 2, 3, 4, 5, 6, 7, 0] (L' := [(0, vR E 107), (1, vI v1), (2, vI v2), (3, vI v3), (4, vI v4), (5, vI r23), (6, vI r25), (7, vI r27)]) dX10_ring_63 (by decide) rfl ?_
            refine go_aload_n 0 dX10_ring_65 rfl rfl ?_
            refine go_getR 0 f_X10_7 rfl (hL.1 107 _ rfl) (hL.2.1 107 0 _ rfl (by decide)) dX10_ring_66 ?_
            refine go_iconst dX10_ring_69 ?_
            refine go_iaload (hL.1 108 _ rfl) (b := 500) rfl (by decide) (by decide) dX10_ring_70 ?_
            refine go_istore [1, 2, 3, 4, 5, 6, 7, 8, 0] (L' := [(0, vR E 107), (1, vI v1), (2, vI v2), (3, vI v3), (4, vI v4), (5, vI r23), (6, vI r25), (7, vI r27), (8, vI (D27 108 0))]) dX10_ring_71 (by decide) rfl ?_
            refine go_iconst dX10_ring_73 ?_
            refine go_istore [1, 2, 3, 4, 5, 6, 7, 8, 9, 0] (L' := [(0, vR E 107), (1, vI v1), (2, vI v2), (3, vI v3), (4, vI v4), (5, vI r23), (6, vI r25), (7, vI r27), (8, vI (D27 108 0)), (9, vI 0)]) dX10_ring_74 (by decide) rfl ?_
            exact h
          · have h := h.2 c21
            refine go_aload_n 0 dX10_ring_38 rfl rfl ?_
            refine go_iconst dX10_ring_39 ?_
            refine go_vIp (M := MX10_refuse) [vI 1] [] mv_X10_194 (hL.1 107 _ rfl) rfl (by decide) ⟨Nat.le_of_ble_eq_true rfl, Nat.le_of_ble_eq_true rfl⟩ ⟨Nat.le_refl _, Nat.le_refl _⟩ rfl rfl (Nat.le_of_ble_eq_true rfl) dX10_ring_40 (p_X10_refuse hL (by decide)) ?_
            exact go_ireturn (Nat.le_refl _) (Nat.le_refl _) rfl dX10_ring_43 h
theorem s_X10_ring_76 {l : Launch} {E : Ev} {Q : Int → Sh → Dm → Prop} {G : Sh} {D : Dm} (hL : Lay G) {v1 v2 v3 v4 v5 v6 v7 v8 v9 : Int}  (h : ((-2147483648 ≤ v9 ∧ v9 < 2147483648) ∧ (-2147483648 ≤ v8 ∧ v8 < 2147483648)) ∧ ((v8 ≤ v9 → Q (-1) G (upd2 D 107 1 6)) ∧ (v9 < v8 → KX10_ring l E Q 86 [(0, vR E 107), (1, vI v1), (2, vI v2), (3, vI v3), (4, vI v4), (5, vI v5), (6, vI v6), (7, vI v7), (8, vI v8), (9, vI v9), (10, vI 0)] G D))) : KX10_ring l E Q 76 [(0, vR E 107), (1, vI v1), (2, vI v2), (3, vI v3), (4, vI v4), (5, vI v5), (6, vI v6), (7, vI v7), (8, vI v8), (9, vI v9)] G D := by
  obtain ⟨s1, h⟩ := h
  refine go_iload 9 dX10_ring_76 rfl ?_
  refine go_iload 8 dX10_ring_78 rfl ?_
  refine go_icmp_ge 226 dX10_ring_80 (by decide) s1.1 s1.2 (fun c2 => ?_) (fun c2 => ?_)
  · have h := h.1 c2
    refine go_aload_n 0 dX10_ring_226 rfl rfl ?_
    refine go_bipush dX10_ring_227 (by decide) ?_
    refine go_vIp (M := MX10_refuse) [vI 6] [] mv_X10_194 (hL.1 107 _ rfl) rfl (by decide) ⟨Nat.le_of_ble_eq_true rfl, Nat.le_of_ble_eq_true rfl⟩ ⟨Nat.le_refl _, Nat.le_refl _⟩ rfl rfl (Nat.le_of_ble_eq_true rfl) dX10_ring_229 (p_X10_refuse hL (by decide)) ?_
    exact go_ireturn (Nat.le_refl _) (Nat.le_refl _) rfl dX10_ring_232 h
  · have h := h.2 c2
    refine go_iconst dX10_ring_83 ?_
    refine go_istore [1, 2, 3, 4, 5, 6, 7, 8, 9, 10, 0] (L' := [(0, vR E 107), (1, vI v1), (2, vI v2), (3, vI v3), (4, vI v4), (5, vI v5), (6, vI v6), (7, vI v7), (8, vI v8), (9, vI v9), (10, vI 0)]) dX10_ring_84 (by decide) rfl ?_
    exact h
theorem s_X10_ring_86 {l : Launch} {E : Ev} {Q : Int → Sh → Dm → Prop} {G : Sh} {D : Dm} (hL : Lay G) {v1 v2 v3 v4 v5 v6 v7 v8 v9 v10 : Int}  (h : ((-2147483648 ≤ v10 ∧ v10 < 2147483648) ∧ (-2147483648 ≤ v8 ∧ v8 < 2147483648)) ∧ ((v8 ≤ v10 → KX10_ring l E Q 76 [(0, vR E 107), (1, vI v1), (2, vI v2), (3, vI v3), (4, vI v4), (5, vI v5), (6, vI v6), (7, vI v7), (8, vI v8), (9, vI (v9 + 1))] G D) ∧ (v10 < v8 → (((iA (iSr v5 v9) 1) ≠ 1 → KX10_ring l E Q 76 [(0, vR E 107), (1, vI v1), (2, vI v2), (3, vI v3), (4, vI v4), (5, vI v5), (6, vI v6), (7, vI v7), (8, vI v8), (9, vI (v9 + 1))] G D) ∧ ((iA (iSr v5 v9) 1) = 1 → (((iA (iSr v6 v10) 1) = 0 → KX10_ring l E Q 86 [(0, vR E 107), (1, vI v1), (2, vI v2), (3, vI v3), (4, vI v4), (5, vI v5), (6, vI v6), (7, vI v7), (8, vI v8), (9, vI v9), (10, vI (v10 + 1))] G D) ∧ ((iA (iSr v6 v10) 1) ≠ 0 → C0 l E MX10_grows 0 [vR E 107, vI v2, vI v6, vI v10, vI v9] G D (fun r11 D11 => ((-2147483648 ≤ r11 ∧ r11 < 2147483648)) ∧ ((r11 ≠ 0 → KX10_ring l E Q 134 [(0, vR E 107), (1, vI v1), (2, vI v2), (3, vI v3), (4, vI v4), (5, vI v5), (6, vI v6), (7, vI v7), (8, vI v8), (9, vI v9), (10, vI v10), (11, vI 0)] G D11) ∧ (r11 = 0 → KX10_ring l E Q 86 [(0, vR E 107), (1, vI v1), (2, vI v2), (3, vI v3), (4, vI v4), (5, vI v5), (6, vI v6), (7, vI v7), (8, vI v8), (9, vI v9), (10, vI (v10 + 1))] G D11)))))))))) : KX10_ring l E Q 86 [(0, vR E 107), (1, vI v1), (2, vI v2), (3, vI v3), (4, vI v4), (5, vI v5), (6, vI v6), (7, vI v7), (8, vI v8), (9, vI v9), (10, vI v10)] G D := by
  obtain ⟨s1, h⟩ := h
  refine go_iload 10 dX10_ring_86 rfl ?_
  refine go_iload 8 dX10_ring_88 rfl ?_
  refine go_icmp_ge 220 dX10_ring_90 (by decide) s1.1 s1.2 (fun c2 => ?_) (fun c2 => ?_)
  · have h := h.1 c2
    refine go_iinc 9 [1, 2, 3, 4, 5, 6, 7, 8, 9, 0, 10] (L' := [(0, vR E 107), (1, vI v1), (2, vI v2), (3, vI v3), (4, vI v4), (5, vI v5), (6, vI v6), (7, vI v7), (8, vI v8), (9, vI (v9 + 1)), (10, vI v10)]) dX10_ring_220 (by decide) rfl rfl ?_
    refine go_goto 76 dX10_ring_223 (by decide) ?_
    refine go_sub [0, 1, 2, 3, 4, 5, 6, 7, 8, 9] (L' := [(0, vR E 107), (1, vI v1), (2, vI v2), (3, vI v3), (4, vI v4), (5, vI v5), (6, vI v6), (7, vI v7), (8, vI v8), (9, vI (v9 + 1))]) rfl ?_
    exact h
  · have h := h.2 c2
    refine go_iload 5 dX10_ring_93 rfl ?_
    refine go_iload 9 dX10_ring_95 rfl ?_
    refine go_ishr dX10_ring_97 ?_
    refine go_iconst dX10_ring_98 ?_
    refine go_iand dX10_ring_99 ?_
    refine go_iconst dX10_ring_100 ?_
    refine go_icmp_ne 220 dX10_ring_101 (by decide) (r32 _) (by decide) (fun c5 => ?_) (fun c5 => ?_)
    · have h := h.1 c5
      refine go_iinc 9 [1, 2, 3, 4, 5, 6, 7, 8, 9, 0, 10] (L' := [(0, vR E 107), (1, vI v1), (2, vI v2), (3, vI v3), (4, vI v4), (5, vI v5), (6, vI v6), (7, vI v7), (8, vI v8), (9, vI (v9 + 1)), (10, vI v10)]) dX10_ring_220 (by decide) rfl rfl ?_
      refine go_goto 76 dX10_ring_223 (by decide) ?_
      refine go_sub [0, 1, 2, 3, 4, 5, 6, 7, 8, 9] (L' := [(0, vR E 107), (1, vI v1), (2, vI v2), (3, vI v3), (4, vI v4), (5, vI v5), (6, vI v6), (7, vI v7), (8, vI v8), (9, vI (v9 + 1))]) rfl ?_
      exact h
    · have h := h.2 c5
      refine go_iload 6 dX10_ring_104 rfl ?_
      refine go_iload 10 dX10_ring_106 rfl ?_
      refine go_ishr dX10_ring_108 ?_
      refine go_iconst dX10_ring_109 ?_
      refine go_iand dX10_ring_110 ?_
      refine go_if_eq 214 dX10_ring_111 (by decide) (r32 _) (fun c8 => ?_) (fun c8 => ?_)
      · have h := h.1 c8
        refine go_iinc 10 [1, 2, 3, 4, 5, 6, 7, 8, 9, 10, 0] (L' := [(0, vR E 107), (1, vI v1), (2, vI v2), (3, vI v3), (4, vI v4), (5, vI v5), (6, vI v6), (7, vI v7), (8, vI v8), (9, vI v9), (10, vI (v10 + 1))]) dX10_ring_214 (by decide) rfl rfl ?_
        refine go_goto 86 dX10_ring_217 (by decide) ?_
        exact h
      · have h := h.2 c8
        refine go_aload_n 0 dX10_ring_114 rfl rfl ?_
        refine go_iload_n 2 dX10_ring_115 rfl rfl ?_
        refine go_iload 6 dX10_ring_116 rfl ?_
        refine go_iload 10 dX10_ring_118 rfl ?_
        refine go_iload 9 dX10_ring_120 rfl ?_
        refine go_vI (M := MX10_grows) [vI v2, vI v6, vI v10, vI v9] [] mv_X10_311 (hL.1 107 _ rfl) rfl (by decide) ⟨Nat.le_of_ble_eq_true rfl, Nat.le_of_ble_eq_true rfl⟩ ⟨Nat.le_refl _, Nat.le_refl _⟩ rfl rfl (Nat.le_of_ble_eq_true rfl) dX10_ring_122 h (fun r11 D11 h => ?_)
        obtain ⟨s12, h⟩ := h
        refine go_if_ne 131 dX10_ring_125 (by decide) s12 (fun c13 => ?_) (fun c13 => ?_)
        · have h := h.1 c13
          refine go_iconst dX10_ring_131 ?_
          refine go_istore [1, 2, 3, 4, 5, 6, 7, 8, 9, 10, 11, 0] (L' := [(0, vR E 107), (1, vI v1), (2, vI v2), (3, vI v3), (4, vI v4), (5, vI v5), (6, vI v6), (7, vI v7), (8, vI v8), (9, vI v9), (10, vI v10), (11, vI 0)]) dX10_ring_132 (by decide) rfl ?_
          exact h
        · have h := h.2 c13
          refine go_goto 214 dX10_ring_128 (by decide) ?_
          refine go_iinc 10 [1, 2, 3, 4, 5, 6, 7, 8, 9, 10, 0] (L' := [(0, vR E 107), (1, vI v1), (2, vI v2), (3, vI v3), (4, vI v4), (5, vI v5), (6, vI v6), (7, vI v7), (8, vI v8), (9, vI v9), (10, vI (v10 + 1))]) dX10_ring_214 (by decide) rfl rfl ?_
          refine go_goto 86 dX10_ring_217 (by decide) ?_
          exact h
theorem s_X10_ring_134 {l : Launch} {E : Ev} {Q : Int → Sh → Dm → Prop} {G : Sh} {D : Dm} (hL : Lay G) {v1 v2 v3 v4 v5 v6 v7 v8 v9 v10 v11 : Int}  (h : ((-2147483648 ≤ v11 ∧ v11 < 2147483648) ∧ (-2147483648 ≤ v8 ∧ v8 < 2147483648)) ∧ ((v8 ≤ v11 → KX10_ring l E Q 86 [(0, vR E 107), (1, vI v1), (2, vI v2), (3, vI v3), (4, vI v4), (5, vI v5), (6, vI v6), (7, vI v7), (8, vI v8), (9, vI v9), (10, vI (v10 + 1))] G D) ∧ (v11 < v8 → (((iA (iSr v7 v11) 1) ≠ 1 → KX10_ring l E Q 134 [(0, vR E 107), (1, vI v1), (2, vI v2), (3, vI v3), (4, vI v4), (5, vI v5), (6, vI v6), (7, vI v7), (8, vI v8), (9, vI v9), (10, vI v10), (11, vI (v11 + 1))] G D) ∧ ((iA (iSr v7 v11) 1) = 1 → C0 l E MX10_grows 0 [vR E 107, vI v3, vI v7, vI v11, vI v10] G D (fun r8 D8 => ((-2147483648 ≤ r8 ∧ r8 < 2147483648)) ∧ ((r8 = 0 → KX10_ring l E Q 134 [(0, vR E 107), (1, vI v1), (2, vI v2), (3, vI v3), (4, vI v4), (5, vI v5), (6, vI v6), (7, vI v7), (8, vI v8), (9, vI v9), (10, vI v10), (11, vI (v11 + 1))] G D8) ∧ (r8 ≠ 0 → C0 l E MX10_grows 0 [vR E 107, vI v1, vI v5, vI v9, vI v11] G D8 (fun r13 D13 => ((-2147483648 ≤ r13 ∧ r13 < 2147483648)) ∧ ((r13 = 0 → KX10_ring l E Q 134 [(0, vR E 107), (1, vI v1), (2, vI v2), (3, vI v3), (4, vI v4), (5, vI v5), (6, vI v6), (7, vI v7), (8, vI v8), (9, vI v9), (10, vI v10), (11, vI (v11 + 1))] G D13) ∧ (r13 ≠ 0 → ((-2147483648 ≤ v4 ∧ v4 < 2147483648)) ∧ ((v4 ≠ 0 → ((v4 ≠ 1 → Q v11 G (upd2 D13 107 1 0)) ∧ (v4 = 1 → Q v10 G (upd2 D13 107 1 0)))) ∧ (v4 = 0 → Q v9 G (upd2 D13 107 1 0)))))))))))))) : KX10_ring l E Q 134 [(0, vR E 107), (1, vI v1), (2, vI v2), (3, vI v3), (4, vI v4), (5, vI v5), (6, vI v6), (7, vI v7), (8, vI v8), (9, vI v9), (10, vI v10), (11, vI v11)] G D := by
  obtain ⟨s1, h⟩ := h
  refine go_iload 11 dX10_ring_134 rfl ?_
  refine go_iload 8 dX10_ring_136 rfl ?_
  refine go_icmp_ge 214 dX10_ring_138 (by decide) s1.1 s1.2 (fun c2 => ?_) (fun c2 => ?_)
  · have h := h.1 c2
    refine go_iinc 10 [1, 2, 3, 4, 5, 6, 7, 8, 9, 10, 0, 11] (L' := [(0, vR E 107), (1, vI v1), (2, vI v2), (3, vI v3), (4, vI v4), (5, vI v5), (6, vI v6), (7, vI v7), (8, vI v8), (9, vI v9), (10, vI (v10 + 1)), (11, vI v11)]) dX10_ring_214 (by decide) rfl rfl ?_
    refine go_goto 86 dX10_ring_217 (by decide) ?_
    refine go_sub [0, 1, 2, 3, 4, 5, 6, 7, 8, 9, 10] (L' := [(0, vR E 107), (1, vI v1), (2, vI v2), (3, vI v3), (4, vI v4), (5, vI v5), (6, vI v6), (7, vI v7), (8, vI v8), (9, vI v9), (10, vI (v10 + 1))]) rfl ?_
    exact h
  · have h := h.2 c2
    refine go_iload 7 dX10_ring_141 rfl ?_
    refine go_iload 11 dX10_ring_143 rfl ?_
    refine go_ishr dX10_ring_145 ?_
    refine go_iconst dX10_ring_146 ?_
    refine go_iand dX10_ring_147 ?_
    refine go_iconst dX10_ring_148 ?_
    refine go_icmp_ne 208 dX10_ring_149 (by decide) (r32 _) (by decide) (fun c5 => ?_) (fun c5 => ?_)
    · have h := h.1 c5
      refine go_iinc 11 [1, 2, 3, 4, 5, 6, 7, 8, 9, 10, 11, 0] (L' := [(0, vR E 107), (1, vI v1), (2, vI v2), (3, vI v3), (4, vI v4), (5, vI v5), (6, vI v6), (7, vI v7), (8, vI v8), (9, vI v9), (10, vI v10), (11, vI (v11 + 1))]) dX10_ring_208 (by decide) rfl rfl ?_
      refine go_goto 134 dX10_ring_211 (by decide) ?_
      exact h
    · have h := h.2 c5
      refine go_aload_n 0 dX10_ring_152 rfl rfl ?_
      refine go_iload_n 3 dX10_ring_153 rfl rfl ?_
      refine go_iload 7 dX10_ring_154 rfl ?_
      refine go_iload 11 dX10_ring_156 rfl ?_
      refine go_iload 10 dX10_ring_158 rfl ?_
      refine go_vI (M := MX10_grows) [vI v3, vI v7, vI v11, vI v10] [] mv_X10_311 (hL.1 107 _ rfl) rfl (by decide) ⟨Nat.le_of_ble_eq_true rfl, Nat.le_of_ble_eq_true rfl⟩ ⟨Nat.le_refl _, Nat.le_refl _⟩ rfl rfl (Nat.le_of_ble_eq_true rfl) dX10_ring_160 h (fun r8 D8 h => ?_)
      obtain ⟨s9, h⟩ := h
      refine go_if_eq 208 dX10_ring_163 (by decide) s9 (fun c10 => ?_) (fun c10 => ?_)
      · have h := h.1 c10
        refine go_iinc 11 [1, 2, 3, 4, 5, 6, 7, 8, 9, 10, 11, 0] (L' := [(0, vR E 107), (1, vI v1), (2, vI v2), (3, vI v3), (4, vI v4), (5, vI v5), (6, vI v6), (7, vI v7), (8, vI v8), (9, vI v9), (10, vI v10), (11, vI (v11 + 1))]) dX10_ring_208 (by decide) rfl rfl ?_
        refine go_goto 134 dX10_ring_211 (by decide) ?_
        exact h
      · have h := h.2 c10
        refine go_aload_n 0 dX10_ring_166 rfl rfl ?_
        refine go_iload_n 1 dX10_ring_167 rfl rfl ?_
        refine go_iload 5 dX10_ring_168 rfl ?_
        refine go_iload 9 dX10_ring_170 rfl ?_
        refine go_iload 11 dX10_ring_172 rfl ?_
        refine go_vI (M := MX10_grows) [vI v1, vI v5, vI v9, vI v11] [] mv_X10_311 (hL.1 107 _ rfl) rfl (by decide) ⟨Nat.le_of_ble_eq_true rfl, Nat.le_of_ble_eq_true rfl⟩ ⟨Nat.le_refl _, Nat.le_refl _⟩ rfl rfl (Nat.le_of_ble_eq_true rfl) dX10_ring_174 h (fun r13 D13 h => ?_)
        obtain ⟨s14, h⟩ := h
        refine go_if_eq 208 dX10_ring_177 (by decide) s14 (fun c15 => ?_) (fun c15 => ?_)
        · have h := h.1 c15
          refine go_iinc 11 [1, 2, 3, 4, 5, 6, 7, 8, 9, 10, 11, 0] (L' := [(0, vR E 107), (1, vI v1), (2, vI v2), (3, vI v3), (4, vI v4), (5, vI v5), (6, vI v6), (7, vI v7), (8, vI v8), (9, vI v9), (10, vI v10), (11, vI (v11 + 1))]) dX10_ring_208 (by decide) rfl rfl ?_
          refine go_goto 134 dX10_ring_211 (by decide) ?_
          exact h
        · have h := h.2 c15
          obtain ⟨s17, h⟩ := h
          refine go_aload_n 0 dX10_ring_180 rfl rfl ?_
          refine go_iload 4 dX10_ring_181 rfl ?_
          refine go_if_ne 191 dX10_ring_183 (by decide) s17 (fun c18 => ?_) (fun c18 => ?_)
          · have h := h.1 c18
            refine go_iload 4 dX10_ring_191 rfl ?_
            refine go_iconst dX10_ring_193 ?_
            refine go_icmp_ne 202 dX10_ring_194 (by decide) s17 (by decide) (fun c20 => ?_) (fun c20 => ?_)
            · have h := h.1 c20
              refine go_iload 11 dX10_ring_202 rfl ?_
              refine go_vIp (M := MX10_gives) [vI v11] [] mv_X10_204 (hL.1 107 _ rfl) rfl (by decide) ⟨Nat.le_of_ble_eq_true rfl, Nat.le_of_ble_eq_true rfl⟩ ⟨Nat.le_refl _, Nat.le_refl _⟩ rfl rfl (Nat.le_of_ble_eq_true rfl) dX10_ring_204 (p_X10_gives hL) ?_
              exact go_ireturn (Nat.le_refl _) (Nat.le_refl _) rfl dX10_ring_207 h
            · have h := h.2 c20
              refine go_iload 10 dX10_ring_197 rfl ?_
              refine go_goto 204 dX10_ring_199 (by decide) ?_
              refine go_vIp (M := MX10_gives) [vI v10] [] mv_X10_204 (hL.1 107 _ rfl) rfl (by decide) ⟨Nat.le_of_ble_eq_true rfl, Nat.le_of_ble_eq_true rfl⟩ ⟨Nat.le_refl _, Nat.le_refl _⟩ rfl rfl (Nat.le_of_ble_eq_true rfl) dX10_ring_204 (p_X10_gives hL) ?_
              exact go_ireturn (Nat.le_refl _) (Nat.le_refl _) rfl dX10_ring_207 h
          · have h := h.2 c18
            refine go_iload 9 dX10_ring_186 rfl ?_
            refine go_goto 204 dX10_ring_188 (by decide) ?_
            refine go_vIp (M := MX10_gives) [vI v9] [] mv_X10_204 (hL.1 107 _ rfl) rfl (by decide) ⟨Nat.le_of_ble_eq_true rfl, Nat.le_of_ble_eq_true rfl⟩ ⟨Nat.le_refl _, Nat.le_refl _⟩ rfl rfl (Nat.le_of_ble_eq_true rfl) dX10_ring_204 (p_X10_gives hL) ?_
            exact go_ireturn (Nat.le_refl _) (Nat.le_refl _) rfl dX10_ring_207 h
theorem s_X10_settles {l : Launch} {E : Ev} {Q : Int → Sh → Dm → Prop} {G : Sh} {D : Dm} (hL : Lay G)  (h : KX10_settles l E Q 2 [(0, vR E 107), (1, vI 0)] G D) : Ct l E MX10_settles 0 0 0 [vR E 107] G D Q := by
  refine Ct.of (by decide) (Nat.le_of_ble_eq_true rfl) ?_
  show KX10_settles l E Q 0 [(0, vR E 107)] G D
  refine go_iconst dX10_settles_0 ?_
  refine go_istore_n [1, 0] (L' := [(0, vR E 107), (1, vI 0)]) dX10_settles_1 rfl (by decide) rfl ?_
  exact h
theorem s_X10_settles_2 {l : Launch} {E : Ev} {Q : Int → Sh → Dm → Prop} {G : Sh} {D : Dm} (hL : Lay G) {v1 : Int}  (h : ((-2147483648 ≤ v1 ∧ v1 < 2147483648)) ∧ (((D 108 2) ≤ v1 → Q 0 G D) ∧ (v1 < (D 108 2) → KX10_settles l E Q 16 [(0, vR E 107), (1, vI v1), (2, vI (v1 + 1))] G D))) : KX10_settles l E Q 2 [(0, vR E 107), (1, vI v1)] G D := by
  obtain ⟨s1, h⟩ := h
  refine go_iload_n 1 dX10_settles_2 rfl rfl ?_
  refine go_aload_n 0 dX10_settles_3 rfl rfl ?_
  refine go_getR 0 f_X10_7 rfl (hL.1 107 _ rfl) (hL.2.1 107 0 _ rfl (by decide)) dX10_settles_4 ?_
  refine go_iconst dX10_settles_7 ?_
  refine go_iaload (hL.1 108 _ rfl) (b := 500) rfl (by decide) (by decide) dX10_settles_8 ?_
  refine go_rngI (c := 108) (i := 2) (hL.1 108 _ rfl) rfl (fun (q2 : -2147483648 ≤ (D 108 2) ∧ (D 108 2) < 2147483648) => ?_)
  refine go_icmp_ge 87 dX10_settles_9 (by decide) s1 q2 (fun c3 => ?_) (fun c3 => ?_)
  · have h := h.1 c3
    refine go_iconst dX10_settles_87 ?_
    exact go_zreturn (Nat.le_refl _) (Nat.le_refl _) rfl (by decide) dX10_settles_88 h
  · have h := h.2 c3
    refine go_iload_n 1 dX10_settles_12 rfl rfl ?_
    refine go_iconst dX10_settles_13 ?_
    refine go_iadd dX10_settles_14 ?_
    refine go_istore_n [1, 2, 0] (L' := [(0, vR E 107), (1, vI v1), (2, vI (v1 + 1))]) dX10_settles_15 rfl (by decide) rfl ?_
    exact h
theorem s_X10_settles_16 {l : Launch} {E : Ev} {Q : Int → Sh → Dm → Prop} {G : Sh} {D : Dm} (hL : Lay G) {v1 v2 : Int}  (h : ((-2147483648 ≤ v2 ∧ v2 < 2147483648)) ∧ (((D 108 2) ≤ v2 → KX10_settles l E Q 2 [(0, vR E 107), (1, vI (v1 + 1))] G D) ∧ (v2 < (D 108 2) → C0 l E MX10_swapsOf 0 [vR E 107, vI v1, vI v2, vI 0] G D (fun r6 D6 => ((-2147483648 ≤ r6 ∧ r6 < 2147483648)) ∧ ((r6 ≠ 0 → ((0 ≤ ((8 + (5 * (D6 107 27))) + 4) ∧ ((8 + (5 * (D6 107 27))) + 4) < 500) ∧ (0 ≤ ((8 + (5 * (D6 107 28))) + 4) ∧ ((8 + (5 * (D6 107 28))) + 4) < 500) ∧ (-2147483648 ≤ v1 ∧ v1 < 2147483648)) ∧ Q 1 G (upd2 (upd2 D6 108 ((8 + (5 * (D6 107 27))) + 4) v2) 108 ((8 + (5 * (D6 107 28))) + 4) v1)) ∧ (r6 = 0 → KX10_settles l E Q 16 [(0, vR E 107), (1, vI v1), (2, vI (v2 + 1))] G D6)))))) : KX10_settles l E Q 16 [(0, vR E 107), (1, vI v1), (2, vI v2)] G D := by
  obtain ⟨s1, h⟩ := h
  refine go_iload_n 2 dX10_settles_16 rfl rfl ?_
  refine go_aload_n 0 dX10_settles_17 rfl rfl ?_
  refine go_getR 0 f_X10_7 rfl (hL.1 107 _ rfl) (hL.2.1 107 0 _ rfl (by decide)) dX10_settles_18 ?_
  refine go_iconst dX10_settles_21 ?_
  refine go_iaload (hL.1 108 _ rfl) (b := 500) rfl (by decide) (by decide) dX10_settles_22 ?_
  refine go_rngI (c := 108) (i := 2) (hL.1 108 _ rfl) rfl (fun (q2 : -2147483648 ≤ (D 108 2) ∧ (D 108 2) < 2147483648) => ?_)
  refine go_icmp_ge 81 dX10_settles_23 (by decide) s1 q2 (fun c3 => ?_) (fun c3 => ?_)
  · have h := h.1 c3
    refine go_iinc 1 [1, 0, 2] (L' := [(0, vR E 107), (1, vI (v1 + 1)), (2, vI v2)]) dX10_settles_81 (by decide) rfl rfl ?_
    refine go_goto 2 dX10_settles_84 (by decide) ?_
    refine go_sub [0, 1] (L' := [(0, vR E 107), (1, vI (v1 + 1))]) rfl ?_
    exact h
  · have h := h.2 c3
    refine go_aload_n 0 dX10_settles_26 rfl rfl ?_
    refine go_iload_n 1 dX10_settles_27 rfl rfl ?_
    refine go_iload_n 2 dX10_settles_28 rfl rfl ?_
    refine go_iconst dX10_settles_29 ?_
    refine go_vI (M := MX10_swapsOf) [vI v1, vI v2, vI 0] [] mv_X10_324 (hL.1 107 _ rfl) rfl (by decide) ⟨Nat.le_of_ble_eq_true rfl, Nat.le_of_ble_eq_true rfl⟩ ⟨Nat.le_refl _, Nat.le_refl _⟩ rfl rfl (Nat.le_of_ble_eq_true rfl) dX10_settles_30 h (fun r6 D6 h => ?_)
    obtain ⟨s7, h⟩ := h
    refine go_if_ne 39 dX10_settles_33 (by decide) s7 (fun c8 => ?_) (fun c8 => ?_)
    · have h := h.1 c8
      obtain ⟨s9, h⟩ := h
      refine go_aload_n 0 dX10_settles_39 rfl rfl ?_
      refine go_getR 0 f_X10_7 rfl (hL.1 107 _ rfl) (hL.2.1 107 0 _ rfl (by decide)) dX10_settles_40 ?_
      refine go_bipush dX10_settles_43 (by decide) ?_
      refine go_iconst dX10_settles_45 ?_
      refine go_aload_n 0 dX10_settles_46 rfl rfl ?_
      refine go_getI 27 (i := 27) f_X10_315 rfl (hL.1 107 _ rfl) dX10_settles_47 ?_
      refine go_imul dX10_settles_50 ?_
      refine go_iadd dX10_settles_51 ?_
      refine go_iconst dX10_settles_52 ?_
      refine go_iadd dX10_settles_53 ?_
      refine go_iload_n 2 dX10_settles_54 rfl rfl ?_
      refine go_iastore (hL.1 108 _ rfl) (b := 500) rfl (by decide) s9.1 s1 dX10_settles_55 ?_
      refine go_aload_n 0 dX10_settles_56 rfl rfl ?_
      refine go_getR 0 f_X10_7 rfl (hL.1 107 _ rfl) (hL.2.1 107 0 _ rfl (by decide)) dX10_settles_57 ?_
      refine go_bipush dX10_settles_60 (by decide) ?_
      refine go_iconst dX10_settles_62 ?_
      refine go_aload_n 0 dX10_settles_63 rfl rfl ?_
      refine go_getI 28 (i := 28) f_X10_318 rfl (hL.1 107 _ rfl) dX10_settles_64 ?_
      refine go_imul dX10_settles_67 ?_
      refine go_iadd dX10_settles_68 ?_
      refine go_iconst dX10_settles_69 ?_
      refine go_iadd dX10_settles_70 ?_
      refine go_iload_n 1 dX10_settles_71 rfl rfl ?_
      refine go_iastore (hL.1 108 _ rfl) (b := 500) rfl (by decide) s9.2.1 s9.2.2 dX10_settles_72 ?_
      refine go_iconst dX10_settles_73 ?_
      exact go_zreturn (Nat.le_refl _) (Nat.le_refl _) rfl (by decide) dX10_settles_74 h
    · have h := h.2 c8
      refine go_goto 75 dX10_settles_36 (by decide) ?_
      refine go_iinc 2 [1, 2, 0] (L' := [(0, vR E 107), (1, vI v1), (2, vI (v2 + 1))]) dX10_settles_75 (by decide) rfl rfl ?_
      refine go_goto 16 dX10_settles_78 (by decide) ?_
      exact h
theorem s_X10_settle {l : Launch} {E : Ev} {Q : Int → Sh → Dm → Prop} {G : Sh} {D : Dm} (hL : Lay G)  (h : KX10_settle l E Q 2 [(0, vR E 107), (1, vI 0)] G D) : Ct l E MX10_settle 0 0 0 [vR E 107] G D Q := by
  refine Ct.of (by decide) (Nat.le_of_ble_eq_true rfl) ?_
  show KX10_settle l E Q 0 [(0, vR E 107)] G D
  refine go_iconst dX10_settle_0 ?_
  refine go_istore_n [1, 0] (L' := [(0, vR E 107), (1, vI 0)]) dX10_settle_1 rfl (by decide) rfl ?_
  exact h
theorem s_X10_settle_2 {l : Launch} {E : Ev} {Q : Int → Sh → Dm → Prop} {G : Sh} {D : Dm} (hL : Lay G) {v1 : Int}  (h : ((-2147483648 ≤ v1 ∧ v1 < 2147483648)) ∧ ((100 ≤ v1 → Q v1 G (upd2 D 107 1 0)) ∧ (v1 < 100 → C0 l E MX10_settles 0 [vR E 107] G D (fun r6 D6 => ((-2147483648 ≤ r6 ∧ r6 < 2147483648)) ∧ ((r6 = 0 → Q v1 G (upd2 D6 107 1 0)) ∧ (r6 ≠ 0 → KX10_settle l E Q 2 [(0, vR E 107), (1, vI (v1 + 1))] G D6)))))) : KX10_settle l E Q 2 [(0, vR E 107), (1, vI v1)] G D := by
  obtain ⟨s1, h⟩ := h
  refine go_iload_n 1 dX10_settle_2 rfl rfl ?_
  refine go_bipush dX10_settle_3 (by decide) ?_
  refine go_icmp_ge 21 dX10_settle_5 (by decide) s1 (by decide) (fun c2 => ?_) (fun c2 => ?_)
  · have h := h.1 c2
    refine go_aload_n 0 dX10_settle_21 rfl rfl ?_
    refine go_iload_n 1 dX10_settle_22 rfl rfl ?_
    refine go_vIp (M := MX10_gives) [vI v1] [] mv_X10_204 (hL.1 107 _ rfl) rfl (by decide) ⟨Nat.le_of_ble_eq_true rfl, Nat.le_of_ble_eq_true rfl⟩ ⟨Nat.le_refl _, Nat.le_refl _⟩ rfl rfl (Nat.le_of_ble_eq_true rfl) dX10_settle_23 (p_X10_gives hL) ?_
    exact go_ireturn (Nat.le_refl _) (Nat.le_refl _) rfl dX10_settle_26 h
  · have h := h.2 c2
    refine go_aload_n 0 dX10_settle_8 rfl rfl ?_
    refine go_vI (M := MX10_settles) [] [] mv_X10_328 (hL.1 107 _ rfl) rfl (by decide) ⟨Nat.le_of_ble_eq_true rfl, Nat.le_of_ble_eq_true rfl⟩ ⟨Nat.le_refl _, Nat.le_refl _⟩ rfl rfl (Nat.le_of_ble_eq_true rfl) dX10_settle_9 h (fun r6 D6 h => ?_)
    obtain ⟨s7, h⟩ := h
    refine go_if_eq 21 dX10_settle_12 (by decide) s7 (fun c8 => ?_) (fun c8 => ?_)
    · have h := h.1 c8
      refine go_aload_n 0 dX10_settle_21 rfl rfl ?_
      refine go_iload_n 1 dX10_settle_22 rfl rfl ?_
      refine go_vIp (M := MX10_gives) [vI v1] [] mv_X10_204 (hL.1 107 _ rfl) rfl (by decide) ⟨Nat.le_of_ble_eq_true rfl, Nat.le_of_ble_eq_true rfl⟩ ⟨Nat.le_refl _, Nat.le_refl _⟩ rfl rfl (Nat.le_of_ble_eq_true rfl) dX10_settle_23 (p_X10_gives hL) ?_
      exact go_ireturn (Nat.le_refl _) (Nat.le_refl _) rfl dX10_settle_26 h
    · have h := h.2 c8
      refine go_iinc 1 [1, 0] (L' := [(0, vR E 107), (1, vI (v1 + 1))]) dX10_settle_15 (by decide) rfl rfl ?_
      refine go_goto 2 dX10_settle_18 (by decide) ?_
      exact h
theorem s_X10_fills {l : Launch} {E : Ev} {Q : Int → Sh → Dm → Prop} {G : Sh} {D : Dm} (hL : Lay G) {v1 : Int}  (h : KX10_fills l E Q 2 [(0, vR E 107), (1, vI v1), (2, vI 0)] G D) : Ct l E MX10_fills 2 0 0 [vR E 107, vI v1] G D Q := by
  refine Ct.of (by decide) (Nat.le_of_ble_eq_true rfl) ?_
  show KX10_fills l E Q 0 [(0, vR E 107), (1, vI v1)] G D
  refine go_iconst dX10_fills_0 ?_
  refine go_istore_n [1, 2, 0] (L' := [(0, vR E 107), (1, vI v1), (2, vI 0)]) dX10_fills_1 rfl (by decide) rfl ?_
  exact h
theorem s_X10_fills_2 {l : Launch} {E : Ev} {Q : Int → Sh → Dm → Prop} {G : Sh} {D : Dm} (hL : Lay G) {v1 v2 : Int}  (h : ((-2147483648 ≤ v2 ∧ v2 < 2147483648)) ∧ (((D 108 2) ≤ v2 → Q 0 G D) ∧ (v2 < (D 108 2) → KX10_fills l E Q 14 [(0, vR E 107), (1, vI v1), (2, vI v2), (3, vI 0)] G D))) : KX10_fills l E Q 2 [(0, vR E 107), (1, vI v1), (2, vI v2)] G D := by
  obtain ⟨s1, h⟩ := h
  refine go_iload_n 2 dX10_fills_2 rfl rfl ?_
  refine go_aload_n 0 dX10_fills_3 rfl rfl ?_
  refine go_getR 0 f_X10_7 rfl (hL.1 107 _ rfl) (hL.2.1 107 0 _ rfl (by decide)) dX10_fills_4 ?_
  refine go_iconst dX10_fills_7 ?_
  refine go_iaload (hL.1 108 _ rfl) (b := 500) rfl (by decide) (by decide) dX10_fills_8 ?_
  refine go_rngI (c := 108) (i := 2) (hL.1 108 _ rfl) rfl (fun (q2 : -2147483648 ≤ (D 108 2) ∧ (D 108 2) < 2147483648) => ?_)
  refine go_icmp_ge 96 dX10_fills_9 (by decide) s1 q2 (fun c3 => ?_) (fun c3 => ?_)
  · have h := h.1 c3
    exact go_return (Nat.le_refl _) (Nat.le_refl _) rfl dX10_fills_96 h
  · have h := h.2 c3
    refine go_iconst dX10_fills_12 ?_
    refine go_istore_n [1, 2, 3, 0] (L' := [(0, vR E 107), (1, vI v1), (2, vI v2), (3, vI 0)]) dX10_fills_13 rfl (by decide) rfl ?_
    exact h
theorem s_X10_fills_14 {l : Launch} {E : Ev} {Q : Int → Sh → Dm → Prop} {G : Sh} {D : Dm} (hL : Lay G) {v1 v2 v3 : Int}  (h : ((-2147483648 ≤ v3 ∧ v3 < 2147483648)) ∧ (((iSl 1 v1) ≤ v3 → KX10_fills l E Q 2 [(0, vR E 107), (1, vI v1), (2, vI (v2 + 1))] G D) ∧ (v3 < (iSl 1 v1) → C0 l E MX10_goesRound 2 [vR E 107, vI v2, vI v3] G D (fun r5 D5 => KX10_fills l E Q 30 [(0, vR E 107), (1, vI v1), (2, vI v2), (3, vI v3), (4, vI 0)] G D5)))) : KX10_fills l E Q 14 [(0, vR E 107), (1, vI v1), (2, vI v2), (3, vI v3)] G D := by
  obtain ⟨s1, h⟩ := h
  refine go_iload_n 3 dX10_fills_14 rfl rfl ?_
  refine go_iconst dX10_fills_15 ?_
  refine go_iload_n 1 dX10_fills_16 rfl rfl ?_
  refine go_ishl dX10_fills_17 ?_
  refine go_icmp_ge 90 dX10_fills_18 (by decide) s1 (r32 _) (fun c2 => ?_) (fun c2 => ?_)
  · have h := h.1 c2
    refine go_iinc 2 [1, 2, 0, 3] (L' := [(0, vR E 107), (1, vI v1), (2, vI (v2 + 1)), (3, vI v3)]) dX10_fills_90 (by decide) rfl rfl ?_
    refine go_goto 2 dX10_fills_93 (by decide) ?_
    refine go_sub [0, 1, 2] (L' := [(0, vR E 107), (1, vI v1), (2, vI (v2 + 1))]) rfl ?_
    exact h
  · have h := h.2 c2
    refine go_aload_n 0 dX10_fills_21 rfl rfl ?_
    refine go_iload_n 2 dX10_fills_22 rfl rfl ?_
    refine go_iload_n 3 dX10_fills_23 rfl rfl ?_
    refine go_vV (M := MX10_goesRound) [vI v2, vI v3] [] mv_X10_257 (hL.1 107 _ rfl) rfl (by decide) ⟨Nat.le_of_ble_eq_true rfl, Nat.le_of_ble_eq_true rfl⟩ ⟨Nat.le_refl _, Nat.le_refl _⟩ rfl rfl (Nat.le_of_ble_eq_true rfl) dX10_fills_24 h (fun r5 D5 h => ?_)
    refine go_iconst dX10_fills_27 ?_
    refine go_istore [1, 2, 3, 4, 0] (L' := [(0, vR E 107), (1, vI v1), (2, vI v2), (3, vI v3), (4, vI 0)]) dX10_fills_28 (by decide) rfl ?_
    exact h
theorem s_X10_fills_30 {l : Launch} {E : Ev} {Q : Int → Sh → Dm → Prop} {G : Sh} {D : Dm} (hL : Lay G) {v1 v2 v3 v4 : Int}  (h : ((-2147483648 ≤ v4 ∧ v4 < 2147483648)) ∧ (((iSl 1 (D 108 1)) ≤ v4 → KX10_fills l E Q 14 [(0, vR E 107), (1, vI v1), (2, vI v2), (3, vI (v3 + 1))] G D) ∧ (v4 < (iSl 1 (D 108 1)) → C0 l E MX10_netOf 0 [vR E 107, vI v3, vI v4] G D (fun r6 D6 => ((0 ≤ ((88 + (3 * v2)) + 2) ∧ ((88 + (3 * v2)) + 2) < 500) ∧ (-2147483648 ≤ r6 ∧ r6 < 2147483648)) ∧ (((D6 108 ((88 + (3 * v2)) + 2)) ≤ r6 → ((0 ≤ ((((256 * v2) + v3) * 64) + v4) ∧ ((((256 * v2) + v3) * 64) + v4) < 49152)) ∧ KX10_fills l E Q 30 [(0, vR E 107), (1, vI v1), (2, vI v2), (3, vI v3), (4, vI (v4 + 1))] G (upd2 D6 119 ((((256 * v2) + v3) * 64) + v4) 0)) ∧ (r6 < (D6 108 ((88 + (3 * v2)) + 2)) → ((0 ≤ ((((256 * v2) + v3) * 64) + v4) ∧ ((((256 * v2) + v3) * 64) + v4) < 49152)) ∧ KX10_fills l E Q 30 [(0, vR E 107), (1, vI v1), (2, vI v2), (3, vI v3), (4, vI (v4 + 1))] G (upd2 D6 119 ((((256 * v2) + v3) * 64) + v4) 1))))))) : KX10_fills l E Q 30 [(0, vR E 107), (1, vI v1), (2, vI v2), (3, vI v3), (4, vI v4)] G D := by
  obtain ⟨s1, h⟩ := h
  refine go_iload 4 dX10_fills_30 rfl ?_
  refine go_aload_n 0 dX10_fills_32 rfl rfl ?_
  refine go_vIp (M := MX10_lots) [] [vI v4] mv_X10_260 (hL.1 107 _ rfl) rfl (by decide) ⟨Nat.le_of_ble_eq_true rfl, Nat.le_of_ble_eq_true rfl⟩ ⟨Nat.le_refl _, Nat.le_refl _⟩ rfl rfl (Nat.le_of_ble_eq_true rfl) dX10_fills_33 (p_X10_lots hL) ?_
  refine go_icmp_ge 84 dX10_fills_36 (by decide) s1 (r32 _) (fun c3 => ?_) (fun c3 => ?_)
  · have h := h.1 c3
    refine go_iinc 3 [1, 2, 3, 0, 4] (L' := [(0, vR E 107), (1, vI v1), (2, vI v2), (3, vI (v3 + 1)), (4, vI v4)]) dX10_fills_84 (by decide) rfl rfl ?_
    refine go_goto 14 dX10_fills_87 (by decide) ?_
    refine go_sub [0, 1, 2, 3] (L' := [(0, vR E 107), (1, vI v1), (2, vI v2), (3, vI (v3 + 1))]) rfl ?_
    exact h
  · have h := h.2 c3
    refine go_aload_n 0 dX10_fills_39 rfl rfl ?_
    refine go_getR 29 f_X10_60 rfl (hL.1 107 _ rfl) (hL.2.1 107 29 _ rfl (by decide)) dX10_fills_40 ?_
    refine go_sipush dX10_fills_43 (by decide) ?_
    refine go_iload_n 2 dX10_fills_46 rfl rfl ?_
    refine go_imul dX10_fills_47 ?_
    refine go_iload_n 3 dX10_fills_48 rfl rfl ?_
    refine go_iadd dX10_fills_49 ?_
    refine go_bipush dX10_fills_50 (by decide) ?_
    refine go_imul dX10_fills_52 ?_
    refine go_iload 4 dX10_fills_53 rfl ?_
    refine go_iadd dX10_fills_55 ?_
    refine go_aload_n 0 dX10_fills_56 rfl rfl ?_
    refine go_iload_n 3 dX10_fills_57 rfl rfl ?_
    refine go_iload 4 dX10_fills_58 rfl ?_
    refine go_vI (M := MX10_netOf) [vI v3, vI v4] [vI ((((256 * v2) + v3) * 64) + v4), vR E 119] mv_X10_267 (hL.1 107 _ rfl) rfl (by decide) ⟨Nat.le_of_ble_eq_true rfl, Nat.le_of_ble_eq_true rfl⟩ ⟨Nat.le_refl _, Nat.le_refl _⟩ rfl rfl (Nat.le_of_ble_eq_true rfl) dX10_fills_60 h (fun r6 D6 h => ?_)
    obtain ⟨s7, h⟩ := h
    refine go_aload_n 0 dX10_fills_63 rfl rfl ?_
    refine go_iload_n 2 dX10_fills_64 rfl rfl ?_
    refine go_iconst dX10_fills_65 ?_
    refine go_vIp (M := MX10_ofFamily) [vI v2, vI 2] [vI r6, vI ((((256 * v2) + v3) * 64) + v4), vR E 119] mv_X10_226 (hL.1 107 _ rfl) rfl (by decide) ⟨Nat.le_of_ble_eq_true rfl, Nat.le_of_ble_eq_true rfl⟩ ⟨Nat.le_refl _, Nat.le_refl _⟩ rfl rfl (Nat.le_of_ble_eq_true rfl) dX10_fills_66 (p_X10_ofFamily hL s7.1) ?_
    refine go_rngI (c := 108) (i := ((88 + (3 * v2)) + 2)) (hL.1 108 _ rfl) rfl (fun (q9 : -2147483648 ≤ (D6 108 ((88 + (3 * v2)) + 2)) ∧ (D6 108 ((88 + (3 * v2)) + 2)) < 2147483648) => ?_)
    refine go_icmp_ge 76 dX10_fills_69 (by decide) s7.2 q9 (fun c10 => ?_) (fun c10 => ?_)
    · have h := h.1 c10
      obtain ⟨s11, h⟩ := h
      refine go_iconst dX10_fills_76 ?_
      refine go_zastore (hL.1 119 _ rfl) (b := 49152) rfl (by decide) s11 (by decide) dX10_fills_77 ?_
      refine go_iinc 4 [1, 2, 3, 4, 0] (L' := [(0, vR E 107), (1, vI v1), (2, vI v2), (3, vI v3), (4, vI (v4 + 1))]) dX10_fills_78 (by decide) rfl rfl ?_
      refine go_goto 30 dX10_fills_81 (by decide) ?_
      exact h
    · have h := h.2 c10
      obtain ⟨s12, h⟩ := h
      refine go_iconst dX10_fills_72 ?_
      refine go_goto 77 dX10_fills_73 (by decide) ?_
      refine go_zastore (hL.1 119 _ rfl) (b := 49152) rfl (by decide) s12 (by decide) dX10_fills_77 ?_
      refine go_iinc 4 [1, 2, 3, 4, 0] (L' := [(0, vR E 107), (1, vI v1), (2, vI v2), (3, vI v3), (4, vI (v4 + 1))]) dX10_fills_78 (by decide) rfl rfl ?_
      refine go_goto 30 dX10_fills_81 (by decide) ?_
      exact h
theorem s_X10_hungers {l : Launch} {E : Ev} {Q : Int → Sh → Dm → Prop} {G : Sh} {D : Dm} (hL : Lay G) {v1 : Int}  (h : KX10_hungers l E Q 8 [(0, vR E 107), (1, vI v1), (2, vJ 0), (4, vJ 0), (6, vI 0)] G D) : Ct l E MX10_hungers 1 0 0 [vR E 107, vI v1] G D Q := by
  refine Ct.of (by decide) (Nat.le_of_ble_eq_true rfl) ?_
  show KX10_hungers l E Q 0 [(0, vR E 107), (1, vI v1)] G D
  refine go_lconst (x := 0) dX10_hungers_0 rfl ?_
  refine go_lstore_n [1, 2, 0] (L' := [(0, vR E 107), (1, vI v1), (2, vJ 0)]) dX10_hungers_1 rfl (by decide) rfl ?_
  refine go_lconst (x := 0) dX10_hungers_2 rfl ?_
  refine go_lstore [1, 2, 3, 0] (L' := [(0, vR E 107), (1, vI v1), (2, vJ 0), (4, vJ 0)]) dX10_hungers_3 (by decide) rfl ?_
  refine go_iconst dX10_hungers_5 ?_
  refine go_istore [1, 2, 3, 4, 0] (L' := [(0, vR E 107), (1, vI v1), (2, vJ 0), (4, vJ 0), (6, vI 0)]) dX10_hungers_6 (by decide) rfl ?_
  exact h
theorem s_X10_hungers_8 {l : Launch} {E : Ev} {Q : Int → Sh → Dm → Prop} {G : Sh} {D : Dm} (hL : Lay G) {v1 v2 v4 v6 : Int}  (h : ((-2147483648 ≤ v6 ∧ v6 < 2147483648)) ∧ (((iSl 1 (D 108 1)) ≤ v6 → ((-2147483648 ≤ v1 ∧ v1 < 2147483648)) ∧ ((v1 ≠ 0 → Q v4 G D) ∧ (v1 = 0 → Q v2 G D))) ∧ (v6 < (iSl 1 (D 108 1)) → C0 l E MX10_weightOf 1 [vR E 107, vI v6] G D (fun r9 D9 => KX10_hungers l E Q 31 [(0, vR E 107), (1, vI v1), (2, vJ v2), (4, vJ v4), (6, vI v6), (7, vJ r9), (9, vI 0), (10, vI 0)] G D9)))) : KX10_hungers l E Q 8 [(0, vR E 107), (1, vI v1), (2, vJ v2), (4, vJ v4), (6, vI v6)] G D := by
  obtain ⟨s1, h⟩ := h
  refine go_iload 4 dX10_hungers_8 rfl ?_
  refine go_aload_n 0 dX10_hungers_10 rfl rfl ?_
  refine go_vIp (M := MX10_lots) [] [vI v6] mv_X10_260 (hL.1 107 _ rfl) rfl (by decide) ⟨Nat.le_of_ble_eq_true rfl, Nat.le_of_ble_eq_true rfl⟩ ⟨Nat.le_refl _, Nat.le_refl _⟩ rfl rfl (Nat.le_of_ble_eq_true rfl) dX10_hungers_11 (p_X10_lots hL) ?_
  refine go_icmp_ge 123 dX10_hungers_14 (by decide) s1 (r32 _) (fun c3 => ?_) (fun c3 => ?_)
  · have h := h.1 c3
    obtain ⟨s4, h⟩ := h
    refine go_iload_n 1 dX10_hungers_123 rfl rfl ?_
    refine go_if_ne 131 dX10_hungers_124 (by decide) s4 (fun c5 => ?_) (fun c5 => ?_)
    · have h := h.1 c5
      refine go_lload 3 dX10_hungers_131 rfl ?_
      exact go_lreturn (Nat.le_refl _) (Nat.le_refl _) rfl dX10_hungers_133 h
    · have h := h.2 c5
      refine go_lload_n 2 dX10_hungers_127 rfl rfl ?_
      refine go_goto 133 dX10_hungers_128 (by decide) ?_
      exact go_lreturn (Nat.le_refl _) (Nat.le_refl _) rfl dX10_hungers_133 h
  · have h := h.2 c3
    refine go_aload_n 0 dX10_hungers_17 rfl rfl ?_
    refine go_iload 4 dX10_hungers_18 rfl ?_
    refine go_vJ (M := MX10_weightOf) [vI v6] [] mv_X10_263 (hL.1 107 _ rfl) rfl (by decide) ⟨Nat.le_of_ble_eq_true rfl, Nat.le_of_ble_eq_true rfl⟩ ⟨Nat.le_refl _, Nat.le_refl _⟩ rfl rfl (Nat.le_of_ble_eq_true rfl) dX10_hungers_20 h (fun r9 D9 h => ?_)
    refine go_lstore [1, 2, 3, 4, 5, 0] (L' := [(0, vR E 107), (1, vI v1), (2, vJ v2), (4, vJ v4), (6, vI v6), (7, vJ r9)]) dX10_hungers_23 (by decide) rfl ?_
    refine go_iconst dX10_hungers_25 ?_
    refine go_istore [1, 2, 3, 4, 5, 6, 0] (L' := [(0, vR E 107), (1, vI v1), (2, vJ v2), (4, vJ v4), (6, vI v6), (7, vJ r9), (9, vI 0)]) dX10_hungers_26 (by decide) rfl ?_
    refine go_iconst dX10_hungers_28 ?_
    refine go_istore [1, 2, 3, 4, 5, 6, 7, 0] (L' := [(0, vR E 107), (1, vI v1), (2, vJ v2), (4, vJ v4), (6, vI v6), (7, vJ r9), (9, vI 0), (10, vI 0)]) dX10_hungers_29 (by decide) rfl ?_
    exact h
theorem s_X10_hungers_31 {l : Launch} {E : Ev} {Q : Int → Sh → Dm → Prop} {G : Sh} {D : Dm} (hL : Lay G) {v1 v2 v4 v6 v7 v9 v10 : Int}  (h : ((-2147483648 ≤ v10 ∧ v10 < 2147483648)) ∧ (((D 108 2) ≤ v10 → ((-2147483648 ≤ v9 ∧ v9 < 2147483648) ∧ (-9223372036854775808 ≤ v7 ∧ v7 < 9223372036854775808)) ∧ ((v7 ≤ 0 → KX10_hungers l E Q 8 [(0, vR E 107), (1, vI v1), (2, vJ (v2 + (v7 * v9))), (4, vJ v4), (6, vI (v6 + 1))] G D) ∧ (0 < v7 → ((-9223372036854775808 ≤ v4 ∧ v4 < 9223372036854775808)) ∧ KX10_hungers l E Q 8 [(0, vR E 107), (1, vI v1), (2, vJ (v2 + (v7 * v9))), (4, vJ (max v4 v9)), (6, vI (v6 + 1))] G D))) ∧ (v10 < (D 108 2) → ((0 ≤ v10 ∧ v10 < 4) ∧ (0 ≤ ((((256 * v10) + (D 122 v10)) * 64) + v6) ∧ ((((256 * v10) + (D 122 v10)) * 64) + v6) < 49152)) ∧ (((D 119 ((((256 * v10) + (D 122 v10)) * 64) + v6)) = 0 → KX10_hungers l E Q 31 [(0, vR E 107), (1, vI v1), (2, vJ v2), (4, vJ v4), (6, vI v6), (7, vJ v7), (9, vI (v9 + 0)), (10, vI (v10 + 1))] G D) ∧ ((D 119 ((((256 * v10) + (D 122 v10)) * 64) + v6)) ≠ 0 → KX10_hungers l E Q 31 [(0, vR E 107), (1, vI v1), (2, vJ v2), (4, vJ v4), (6, vI v6), (7, vJ v7), (9, vI (v9 + 1)), (10, vI (v10 + 1))] G D))))) : KX10_hungers l E Q 31 [(0, vR E 107), (1, vI v1), (2, vJ v2), (4, vJ v4), (6, vI v6), (7, vJ v7), (9, vI v9), (10, vI v10)] G D := by
  obtain ⟨s1, h⟩ := h
  refine go_iload 7 dX10_hungers_31 rfl ?_
  refine go_aload_n 0 dX10_hungers_33 rfl rfl ?_
  refine go_getR 0 f_X10_7 rfl (hL.1 107 _ rfl) (hL.2.1 107 0 _ rfl (by decide)) dX10_hungers_34 ?_
  refine go_iconst dX10_hungers_37 ?_
  refine go_iaload (hL.1 108 _ rfl) (b := 500) rfl (by decide) (by decide) dX10_hungers_38 ?_
  refine go_rngI (c := 108) (i := 2) (hL.1 108 _ rfl) rfl (fun (q2 : -2147483648 ≤ (D 108 2) ∧ (D 108 2) < 2147483648) => ?_)
  refine go_icmp_ge 86 dX10_hungers_39 (by decide) s1 q2 (fun c3 => ?_) (fun c3 => ?_)
  · have h := h.1 c3
    obtain ⟨s4, h⟩ := h
    refine go_lload_n 2 dX10_hungers_86 rfl rfl ?_
    refine go_lload 5 dX10_hungers_87 rfl ?_
    refine go_iload 6 dX10_hungers_89 rfl ?_
    refine go_i2l s4.1 dX10_hungers_91 ?_
    refine go_lmul dX10_hungers_92 ?_
    refine go_ladd dX10_hungers_93 ?_
    refine go_lstore_n [1, 2, 0, 3, 4, 5, 6, 7] (L' := [(0, vR E 107), (1, vI v1), (2, vJ (v2 + (v7 * v9))), (4, vJ v4), (6, vI v6), (7, vJ v7), (9, vI v9), (10, vI v10)]) dX10_hungers_94 rfl (by decide) rfl ?_
    refine go_lload 5 dX10_hungers_95 rfl ?_
    refine go_lconst (x := 0) dX10_hungers_97 rfl ?_
    refine go_lcmp_le 113 dX10_hungers_98 dX10_hungers_99 (by decide) s4.2 (by decide) (fun c5 => ?_) (fun c5 => ?_)
    · have h := h.1 c5
      refine go_lload 3 dX10_hungers_113 rfl ?_
      refine go_lstore [1, 2, 3, 0, 4, 5, 6, 7] (L' := [(0, vR E 107), (1, vI v1), (2, vJ (v2 + (v7 * v9))), (4, vJ v4), (6, vI v6), (7, vJ v7), (9, vI v9), (10, vI v10)]) dX10_hungers_115 (by decide) rfl ?_
      refine go_iinc 4 [1, 2, 3, 4, 0, 5, 6, 7] (L' := [(0, vR E 107), (1, vI v1), (2, vJ (v2 + (v7 * v9))), (4, vJ v4), (6, vI (v6 + 1)), (7, vJ v7), (9, vI v9), (10, vI v10)]) dX10_hungers_117 (by decide) rfl rfl ?_
      refine go_goto 8 dX10_hungers_120 (by decide) ?_
      refine go_sub [0, 1, 2, 3, 4] (L' := [(0, vR E 107), (1, vI v1), (2, vJ (v2 + (v7 * v9))), (4, vJ v4), (6, vI (v6 + 1))]) rfl ?_
      exact h
    · have h := h.2 c5
      obtain ⟨s7, h⟩ := h
      refine go_lload 3 dX10_hungers_102 rfl ?_
      refine go_iload 6 dX10_hungers_104 rfl ?_
      refine go_i2l s4.1 dX10_hungers_106 ?_
      refine go_mmaxJ ma_X10_331 s7 (rIJ s4.1) ⟨by decide, Nat.le_of_ble_eq_true rfl⟩ ⟨Nat.le_refl _, Nat.le_refl _⟩ dX10_hungers_107 ?_
      refine go_goto 115 dX10_hungers_110 (by decide) ?_
      refine go_lstore [1, 2, 3, 0, 4, 5, 6, 7] (L' := [(0, vR E 107), (1, vI v1), (2, vJ (v2 + (v7 * v9))), (4, vJ (max v4 v9)), (6, vI v6), (7, vJ v7), (9, vI v9), (10, vI v10)]) dX10_hungers_115 (by decide) rfl ?_
      refine go_iinc 4 [1, 2, 3, 4, 0, 5, 6, 7] (L' := [(0, vR E 107), (1, vI v1), (2, vJ (v2 + (v7 * v9))), (4, vJ (max v4 v9)), (6, vI (v6 + 1)), (7, vJ v7), (9, vI v9), (10, vI v10)]) dX10_hungers_117 (by decide) rfl rfl ?_
      refine go_goto 8 dX10_hungers_120 (by decide) ?_
      refine go_sub [0, 1, 2, 3, 4] (L' := [(0, vR E 107), (1, vI v1), (2, vJ (v2 + (v7 * v9))), (4, vJ (max v4 v9)), (6, vI (v6 + 1))]) rfl ?_
      exact h
  · have h := h.2 c3
    obtain ⟨s8, h⟩ := h
    refine go_iload 6 dX10_hungers_42 rfl ?_
    refine go_aload_n 0 dX10_hungers_44 rfl rfl ?_
    refine go_getR 29 f_X10_60 rfl (hL.1 107 _ rfl) (hL.2.1 107 29 _ rfl (by decide)) dX10_hungers_45 ?_
    refine go_sipush dX10_hungers_48 (by decide) ?_
    refine go_iload 7 dX10_hungers_51 rfl ?_
    refine go_imul dX10_hungers_53 ?_
    refine go_aload_n 0 dX10_hungers_54 rfl rfl ?_
    refine go_getR 32 f_X10_70 rfl (hL.1 107 _ rfl) (hL.2.1 107 32 _ rfl (by decide)) dX10_hungers_55 ?_
    refine go_iload 7 dX10_hungers_58 rfl ?_
    refine go_iaload (hL.1 122 _ rfl) (b := 4) rfl (by decide) s8.1 dX10_hungers_60 ?_
    refine go_iadd dX10_hungers_61 ?_
    refine go_bipush dX10_hungers_62 (by decide) ?_
    refine go_imul dX10_hungers_64 ?_
    refine go_iload 4 dX10_hungers_65 rfl ?_
    refine go_iadd dX10_hungers_67 ?_
    refine go_zaload (hL.1 119 _ rfl) (b := 49152) rfl (by decide) s8.2 dX10_hungers_68 ?_
    refine go_rngI (c := 119) (i := ((((256 * v10) + (D 122 v10)) * 64) + v6)) (hL.1 119 _ rfl) rfl (fun (q9 : -2147483648 ≤ (D 119 ((((256 * v10) + (D 122 v10)) * 64) + v6)) ∧ (D 119 ((((256 * v10) + (D 122 v10)) * 64) + v6)) < 2147483648) => ?_)
    refine go_if_eq 76 dX10_hungers_69 (by decide) q9 (fun c10 => ?_) (fun c10 => ?_)
    · have h := h.1 c10
      refine go_iconst dX10_hungers_76 ?_
      refine go_iadd dX10_hungers_77 ?_
      refine go_istore [1, 2, 3, 4, 5, 6, 0, 7] (L' := [(0, vR E 107), (1, vI v1), (2, vJ v2), (4, vJ v4), (6, vI v6), (7, vJ v7), (9, vI (v9 + 0)), (10, vI v10)]) dX10_hungers_78 (by decide) rfl ?_
      refine go_iinc 7 [1, 2, 3, 4, 5, 6, 7, 0] (L' := [(0, vR E 107), (1, vI v1), (2, vJ v2), (4, vJ v4), (6, vI v6), (7, vJ v7), (9, vI (v9 + 0)), (10, vI (v10 + 1))]) dX10_hungers_80 (by decide) rfl rfl ?_
      refine go_goto 31 dX10_hungers_83 (by decide) ?_
      exact h
    · have h := h.2 c10
      refine go_iconst dX10_hungers_72 ?_
      refine go_goto 77 dX10_hungers_73 (by decide) ?_
      refine go_iadd dX10_hungers_77 ?_
      refine go_istore [1, 2, 3, 4, 5, 6, 0, 7] (L' := [(0, vR E 107), (1, vI v1), (2, vJ v2), (4, vJ v4), (6, vI v6), (7, vJ v7), (9, vI (v9 + 1)), (10, vI v10)]) dX10_hungers_78 (by decide) rfl ?_
      refine go_iinc 7 [1, 2, 3, 4, 5, 6, 7, 0] (L' := [(0, vR E 107), (1, vI v1), (2, vJ v2), (4, vJ v4), (6, vI v6), (7, vJ v7), (9, vI (v9 + 1)), (10, vI (v10 + 1))]) dX10_hungers_80 (by decide) rfl rfl ?_
      refine go_goto 31 dX10_hungers_83 (by decide) ?_
      exact h
theorem s_X10_give {l : Launch} {E : Ev} {Q : Int → Sh → Dm → Prop} {G : Sh} {D : Dm} (hL : Lay G) {v1 : Int}  (h : ((-2147483648 ≤ v1 ∧ v1 < 2147483648)) ∧ ((v1 < 0 → Q 0 G (upd2 D 107 1 1)) ∧ (0 ≤ v1 → ((v1 ≤ 1 → ((8 < (D 108 0) → Q 0 G (upd2 D 107 1 4)) ∧ ((D 108 0) ≤ 8 → (((D 108 2) ≤ 3 → (((D 108 2) ≠ 0 → C0 l E MX10_fills 2 [vR E 107, vI (D 108 0)] G D (fun r18 D18 => KX10_give l E Q 68 [(0, vR E 107), (1, vI v1), (2, vI (D 108 0)), (3, vI (D 108 2)), (4, vI 1), (5, vI 0)] G D18)) ∧ ((D 108 2) = 0 → Q 0 G (upd2 D 107 1 6)))) ∧ (3 < (D 108 2) → Q 0 G (upd2 D 107 1 4)))))) ∧ (1 < v1 → Q 0 G (upd2 D 107 1 1)))))) : Ct l E MX10_give 0 0 0 [vR E 107, vI v1] G D Q := by
  refine Ct.of (by decide) (Nat.le_of_ble_eq_true rfl) ?_
  show KX10_give l E Q 0 [(0, vR E 107), (1, vI v1)] G D
  obtain ⟨s1, h⟩ := h
  refine go_iload_n 1 dX10_give_0 rfl rfl ?_
  refine go_if_lt 9 dX10_give_1 (by decide) s1 (fun c2 => ?_) (fun c2 => ?_)
  · have h := h.1 c2
    refine go_aload_n 0 dX10_give_9 rfl rfl ?_
    refine go_iconst dX10_give_10 ?_
    refine go_vIp (M := MX10_is) [vI 1] [] mv_X10_88 (hL.1 107 _ rfl) rfl (by decide) ⟨Nat.le_of_ble_eq_true rfl, Nat.le_of_ble_eq_true rfl⟩ ⟨Nat.le_refl _, Nat.le_refl _⟩ rfl rfl (Nat.le_of_ble_eq_true rfl) dX10_give_11 (p_X10_is hL (by decide)) ?_
    exact go_zreturn (Nat.le_refl _) (Nat.le_refl _) rfl (by decide) dX10_give_14 h
  · have h := h.2 c2
    refine go_iload_n 1 dX10_give_4 rfl rfl ?_
    refine go_iconst dX10_give_5 ?_
    refine go_icmp_le 15 dX10_give_6 (by decide) s1 (by decide) (fun c6 => ?_) (fun c6 => ?_)
    · have h := h.1 c6
      refine go_aload_n 0 dX10_give_15 rfl rfl ?_
      refine go_getR 0 f_X10_7 rfl (hL.1 107 _ rfl) (hL.2.1 107 0 _ rfl (by decide)) dX10_give_16 ?_
      refine go_iconst dX10_give_19 ?_
      refine go_iaload (hL.1 108 _ rfl) (b := 500) rfl (by decide) (by decide) dX10_give_20 ?_
      refine go_istore_n [1, 2, 0] (L' := [(0, vR E 107), (1, vI v1), (2, vI (D 108 0))]) dX10_give_21 rfl (by decide) rfl ?_
      refine go_aload_n 0 dX10_give_22 rfl rfl ?_
      refine go_getR 0 f_X10_7 rfl (hL.1 107 _ rfl) (hL.2.1 107 0 _ rfl (by decide)) dX10_give_23 ?_
      refine go_iconst dX10_give_26 ?_
      refine go_iaload (hL.1 108 _ rfl) (b := 500) rfl (by decide) (by decide) dX10_give_27 ?_
      refine go_istore_n [1, 2, 3, 0] (L' := [(0, vR E 107), (1, vI v1), (2, vI (D 108 0)), (3, vI (D 108 2))]) dX10_give_28 rfl (by decide) rfl ?_
      refine go_iload_n 2 dX10_give_29 rfl rfl ?_
      refine go_bipush dX10_give_30 (by decide) ?_
      refine go_rngI (c := 108) (i := 0) (hL.1 108 _ rfl) rfl (fun (q8 : -2147483648 ≤ (D 108 0) ∧ (D 108 0) < 2147483648) => ?_)
      refine go_icmp_gt 40 dX10_give_32 (by decide) q8 (by decide) (fun c9 => ?_) (fun c9 => ?_)
      · have h := h.1 c9
        refine go_aload_n 0 dX10_give_40 rfl rfl ?_
        refine go_iconst dX10_give_41 ?_
        refine go_vIp (M := MX10_is) [vI 4] [] mv_X10_88 (hL.1 107 _ rfl) rfl (by decide) ⟨Nat.le_of_ble_eq_true rfl, Nat.le_of_ble_eq_true rfl⟩ ⟨Nat.le_refl _, Nat.le_refl _⟩ rfl rfl (Nat.le_of_ble_eq_true rfl) dX10_give_42 (p_X10_is hL (by decide)) ?_
        exact go_zreturn (Nat.le_refl _) (Nat.le_refl _) rfl (by decide) dX10_give_45 h
      · have h := h.2 c9
        refine go_iload_n 3 dX10_give_35 rfl rfl ?_
        refine go_iconst dX10_give_36 ?_
        refine go_rngI (c := 108) (i := 2) (hL.1 108 _ rfl) rfl (fun (q13 : -2147483648 ≤ (D 108 2) ∧ (D 108 2) < 2147483648) => ?_)
        refine go_icmp_le 46 dX10_give_37 (by decide) q13 (by decide) (fun c14 => ?_) (fun c14 => ?_)
        · have h := h.1 c14
          refine go_iload_n 3 dX10_give_46 rfl rfl ?_
          refine go_if_ne 57 dX10_give_47 (by decide) q13 (fun c16 => ?_) (fun c16 => ?_)
          · have h := h.1 c16
            refine go_aload_n 0 dX10_give_57 rfl rfl ?_
            refine go_iload_n 2 dX10_give_58 rfl rfl ?_
            refine go_vV (M := MX10_fills) [vI (D 108 0)] [] mv_X10_334 (hL.1 107 _ rfl) rfl (by decide) ⟨Nat.le_of_ble_eq_true rfl, Nat.le_of_ble_eq_true rfl⟩ ⟨Nat.le_refl _, Nat.le_refl _⟩ rfl rfl (Nat.le_of_ble_eq_true rfl) dX10_give_59 h (fun r18 D18 h => ?_)
            refine go_iconst dX10_give_62 ?_
            refine go_istore [1, 2, 3, 4, 0] (L' := [(0, vR E 107), (1, vI v1), (2, vI (D 108 0)), (3, vI (D 108 2)), (4, vI 1)]) dX10_give_63 (by decide) rfl ?_
            refine go_iconst dX10_give_65 ?_
            refine go_istore [1, 2, 3, 4, 5, 0] (L' := [(0, vR E 107), (1, vI v1), (2, vI (D 108 0)), (3, vI (D 108 2)), (4, vI 1), (5, vI 0)]) dX10_give_66 (by decide) rfl ?_
            exact h
          · have h := h.2 c16
            refine go_aload_n 0 dX10_give_50 rfl rfl ?_
            refine go_bipush dX10_give_51 (by decide) ?_
            refine go_vIp (M := MX10_is) [vI 6] [] mv_X10_88 (hL.1 107 _ rfl) rfl (by decide) ⟨Nat.le_of_ble_eq_true rfl, Nat.le_of_ble_eq_true rfl⟩ ⟨Nat.le_refl _, Nat.le_refl _⟩ rfl rfl (Nat.le_of_ble_eq_true rfl) dX10_give_53 (p_X10_is hL (by decide)) ?_
            exact go_zreturn (Nat.le_refl _) (Nat.le_refl _) rfl (by decide) dX10_give_56 h
        · have h := h.2 c14
          refine go_aload_n 0 dX10_give_40 rfl rfl ?_
          refine go_iconst dX10_give_41 ?_
          refine go_vIp (M := MX10_is) [vI 4] [] mv_X10_88 (hL.1 107 _ rfl) rfl (by decide) ⟨Nat.le_of_ble_eq_true rfl, Nat.le_of_ble_eq_true rfl⟩ ⟨Nat.le_refl _, Nat.le_refl _⟩ rfl rfl (Nat.le_of_ble_eq_true rfl) dX10_give_42 (p_X10_is hL (by decide)) ?_
          exact go_zreturn (Nat.le_refl _) (Nat.le_refl _) rfl (by decide) dX10_give_45 h
    · have h := h.2 c6
      refine go_aload_n 0 dX10_give_9 rfl rfl ?_
      refine go_iconst dX10_give_10 ?_
      refine go_vIp (M := MX10_is) [vI 1] [] mv_X10_88 (hL.1 107 _ rfl) rfl (by decide) ⟨Nat.le_of_ble_eq_true rfl, Nat.le_of_ble_eq_true rfl⟩ ⟨Nat.le_refl _, Nat.le_refl _⟩ rfl rfl (Nat.le_of_ble_eq_true rfl) dX10_give_11 (p_X10_is hL (by decide)) ?_
      exact go_zreturn (Nat.le_refl _) (Nat.le_refl _) rfl (by decide) dX10_give_14 h
theorem s_X10_give_68 {l : Launch} {E : Ev} {Q : Int → Sh → Dm → Prop} {G : Sh} {D : Dm} (hL : Lay G) {v1 v2 v3 v4 v5 : Int}  (h : ((-2147483648 ≤ v5 ∧ v5 < 2147483648) ∧ (-2147483648 ≤ v2 ∧ v2 < 2147483648)) ∧ ((v2 ≤ v5 → KX10_give l E Q 94 [(0, vR E 107), (1, vI v1), (2, vI v2), (3, vI v3), (4, vI v4), (5, vJ (-1)), (7, vI 0)] G D) ∧ (v5 < v2 → KX10_give l E Q 68 [(0, vR E 107), (1, vI v1), (2, vI v2), (3, vI v3), (4, vI (v4 * v3)), (5, vI (v5 + 1))] G D))) : KX10_give l E Q 68 [(0, vR E 107), (1, vI v1), (2, vI v2), (3, vI v3), (4, vI v4), (5, vI v5)] G D := by
  obtain ⟨s1, h⟩ := h
  refine go_iload 5 dX10_give_68 rfl ?_
  refine go_iload_n 2 dX10_give_70 rfl rfl ?_
  refine go_icmp_ge 86 dX10_give_71 (by decide) s1.1 s1.2 (fun c2 => ?_) (fun c2 => ?_)
  · have h := h.1 c2
    refine go_ldc2 (x := (-1)) k_X10_103 dX10_give_86 ?_
    refine go_lstore [1, 2, 3, 4, 5, 0] (L' := [(0, vR E 107), (1, vI v1), (2, vI v2), (3, vI v3), (4, vI v4), (5, vJ (-1))]) dX10_give_89 (by decide) rfl ?_
    refine go_iconst dX10_give_91 ?_
    refine go_istore [1, 2, 3, 4, 5, 6, 0] (L' := [(0, vR E 107), (1, vI v1), (2, vI v2), (3, vI v3), (4, vI v4), (5, vJ (-1)), (7, vI 0)]) dX10_give_92 (by decide) rfl ?_
    exact h
  · have h := h.2 c2
    refine go_iload 4 dX10_give_74 rfl ?_
    refine go_iload_n 3 dX10_give_76 rfl rfl ?_
    refine go_imul dX10_give_77 ?_
    refine go_istore [1, 2, 3, 4, 0, 5] (L' := [(0, vR E 107), (1, vI v1), (2, vI v2), (3, vI v3), (4, vI (v4 * v3)), (5, vI v5)]) dX10_give_78 (by decide) rfl ?_
    refine go_iinc 5 [1, 2, 3, 4, 5, 0] (L' := [(0, vR E 107), (1, vI v1), (2, vI v2), (3, vI v3), (4, vI (v4 * v3)), (5, vI (v5 + 1))]) dX10_give_80 (by decide) rfl rfl ?_
    refine go_goto 68 dX10_give_83 (by decide) ?_
    exact h
theorem s_X10_give_94 {l : Launch} {E : Ev} {Q : Int → Sh → Dm → Prop} {G : Sh} {D : Dm} (hL : Lay G) {v1 v2 v3 v4 v5 v7 : Int}  (h : ((-2147483648 ≤ v7 ∧ v7 < 2147483648) ∧ (-2147483648 ≤ v4 ∧ v4 < 2147483648)) ∧ ((v4 ≤ v7 → ((-2147483648 ≤ v2 ∧ v2 < 2147483648) ∧ (-2147483648 ≤ v1 ∧ v1 < 2147483648)) ∧ ((v1 ≠ 0 → C0 l E MX10_tells 0 [vR E 107, vJ v5, vJ 1] G (upd2 D 107 33 v2) (fun r6 D6 => ((r6 = 0 ∨ r6 = 1)) ∧ Q r6 G D6)) ∧ (v1 = 0 → C0 l E MX10_allLots 1 [vR E 107] G (upd2 D 107 33 v2) (fun r9 D9 => C0 l E MX10_tells 0 [vR E 107, vJ v5, vJ r9] G D9 (fun r11 D11 => ((r11 = 0 ∨ r11 = 1)) ∧ Q r11 G D11))))) ∧ (v7 < v4 → KX10_give l E Q 108 [(0, vR E 107), (1, vI v1), (2, vI v2), (3, vI v3), (4, vI v4), (5, vJ v5), (7, vI v7), (8, vI v7), (9, vI 0)] G D))) : KX10_give l E Q 94 [(0, vR E 107), (1, vI v1), (2, vI v2), (3, vI v3), (4, vI v4), (5, vJ v5), (7, vI v7)] G D := by
  obtain ⟨s1, h⟩ := h
  refine go_iload 6 dX10_give_94 rfl ?_
  refine go_iload 4 dX10_give_96 rfl ?_
  refine go_icmp_ge 246 dX10_give_98 (by decide) s1.1 s1.2 (fun c2 => ?_) (fun c2 => ?_)
  · have h := h.1 c2
    obtain ⟨s3, h⟩ := h
    refine go_aload_n 0 dX10_give_246 rfl rfl ?_
    refine go_iload_n 2 dX10_give_247 rfl rfl ?_
    refine go_putI 33 (i := 33) s3.1 f_X10_73 rfl (hL.1 107 _ rfl) dX10_give_248 ?_
    refine go_aload_n 0 dX10_give_251 rfl rfl ?_
    refine go_lload 5 dX10_give_252 rfl ?_
    refine go_iload_n 1 dX10_give_254 rfl rfl ?_
    refine go_if_ne 265 dX10_give_255 (by decide) s3.2 (fun c4 => ?_) (fun c4 => ?_)
    · have h := h.1 c4
      refine go_lconst (x := 1) dX10_give_265 rfl ?_
      refine go_vI (M := MX10_tells) [vJ v5, vJ 1] [] mv_X10_291 (hL.1 107 _ rfl) rfl (by decide) ⟨Nat.le_of_ble_eq_true rfl, Nat.le_of_ble_eq_true rfl⟩ ⟨Nat.le_refl _, Nat.le_refl _⟩ rfl rfl (Nat.le_of_ble_eq_true rfl) dX10_give_266 h (fun r6 D6 h => ?_)
      obtain ⟨s7, h⟩ := h
      exact go_zreturn (Nat.le_refl _) (Nat.le_refl _) rfl s7 dX10_give_269 h
    · have h := h.2 c4
      refine go_aload_n 0 dX10_give_258 rfl rfl ?_
      refine go_vJ (M := MX10_allLots) [] [vJ v5, vR E 107] mv_X10_288 (hL.1 107 _ rfl) rfl (by decide) ⟨Nat.le_of_ble_eq_true rfl, Nat.le_of_ble_eq_true rfl⟩ ⟨Nat.le_refl _, Nat.le_refl _⟩ rfl rfl (Nat.le_of_ble_eq_true rfl) dX10_give_259 h (fun r9 D9 h => ?_)
      refine go_goto 266 dX10_give_262 (by decide) ?_
      refine go_vI (M := MX10_tells) [vJ v5, vJ r9] [] mv_X10_291 (hL.1 107 _ rfl) rfl (by decide) ⟨Nat.le_of_ble_eq_true rfl, Nat.le_of_ble_eq_true rfl⟩ ⟨Nat.le_refl _, Nat.le_refl _⟩ rfl rfl (Nat.le_of_ble_eq_true rfl) dX10_give_266 h (fun r11 D11 h => ?_)
      obtain ⟨s12, h⟩ := h
      exact go_zreturn (Nat.le_refl _) (Nat.le_refl _) rfl s12 dX10_give_269 h
  · have h := h.2 c2
    refine go_iload 6 dX10_give_101 rfl ?_
    refine go_istore [1, 2, 3, 4, 5, 6, 7, 0] (L' := [(0, vR E 107), (1, vI v1), (2, vI v2), (3, vI v3), (4, vI v4), (5, vJ v5), (7, vI v7), (8, vI v7)]) dX10_give_103 (by decide) rfl ?_
    refine go_iconst dX10_give_105 ?_
    refine go_istore [1, 2, 3, 4, 5, 6, 7, 8, 0] (L' := [(0, vR E 107), (1, vI v1), (2, vI v2), (3, vI v3), (4, vI v4), (5, vJ v5), (7, vI v7), (8, vI v7), (9, vI 0)]) dX10_give_106 (by decide) rfl ?_
    exact h
theorem s_X10_give_108 {l : Launch} {E : Ev} {Q : Int → Sh → Dm → Prop} {G : Sh} {D : Dm} (hL : Lay G) {v1 v2 v3 v4 v5 v7 v8 v9 : Int}  (h : ((-2147483648 ≤ v9 ∧ v9 < 2147483648) ∧ (-2147483648 ≤ v3 ∧ v3 < 2147483648)) ∧ ((v3 ≤ v9 → KX10_give l E Q 133 [(0, vR E 107), (1, vI v1), (2, vI v2), (3, vI v3), (4, vI v4), (5, vJ v5), (7, vI v7), (8, vI v8), (9, vI (v2 - 1))] G D) ∧ (v9 < v3 → ((0 ≤ v9 ∧ v9 < 4)) ∧ KX10_give l E Q 108 [(0, vR E 107), (1, vI v1), (2, vI v2), (3, vI v3), (4, vI v4), (5, vJ v5), (7, vI v7), (8, vI v8), (9, vI (v9 + 1))] G (upd2 D 122 v9 0)))) : KX10_give l E Q 108 [(0, vR E 107), (1, vI v1), (2, vI v2), (3, vI v3), (4, vI v4), (5, vJ v5), (7, vI v7), (8, vI v8), (9, vI v9)] G D := by
  obtain ⟨s1, h⟩ := h
  refine go_iload 8 dX10_give_108 rfl ?_
  refine go_iload_n 3 dX10_give_110 rfl rfl ?_
  refine go_icmp_ge 128 dX10_give_111 (by decide) s1.1 s1.2 (fun c2 => ?_) (fun c2 => ?_)
  · have h := h.1 c2
    refine go_iload_n 2 dX10_give_128 rfl rfl ?_
    refine go_iconst dX10_give_129 ?_
    refine go_isub dX10_give_130 ?_
    refine go_istore [1, 2, 3, 4, 5, 6, 7, 8, 0] (L' := [(0, vR E 107), (1, vI v1), (2, vI v2), (3, vI v3), (4, vI v4), (5, vJ v5), (7, vI v7), (8, vI v8), (9, vI (v2 - 1))]) dX10_give_131 (by decide) rfl ?_
    exact h
  · have h := h.2 c2
    obtain ⟨s4, h⟩ := h
    refine go_aload_n 0 dX10_give_114 rfl rfl ?_
    refine go_getR 32 f_X10_70 rfl (hL.1 107 _ rfl) (hL.2.1 107 32 _ rfl (by decide)) dX10_give_115 ?_
    refine go_iload 8 dX10_give_118 rfl ?_
    refine go_iconst dX10_give_120 ?_
    refine go_iastore (hL.1 122 _ rfl) (b := 4) rfl (by decide) s4 (by decide) dX10_give_121 ?_
    refine go_iinc 8 [1, 2, 3, 4, 5, 6, 7, 8, 0] (L' := [(0, vR E 107), (1, vI v1), (2, vI v2), (3, vI v3), (4, vI v4), (5, vJ v5), (7, vI v7), (8, vI v8), (9, vI (v9 + 1))]) dX10_give_122 (by decide) rfl rfl ?_
    refine go_goto 108 dX10_give_125 (by decide) ?_
    exact h
theorem s_X10_give_133 {l : Launch} {E : Ev} {Q : Int → Sh → Dm → Prop} {G : Sh} {D : Dm} (hL : Lay G) {v1 v2 v3 v4 v5 v7 v8 v9 : Int}  (h : ((-2147483648 ≤ v9 ∧ v9 < 2147483648)) ∧ ((v9 < 0 → C0 l E MX10_hungers 1 [vR E 107, vI v1] G D (fun r4 D4 => ((-9223372036854775808 ≤ v5 ∧ v5 < 9223372036854775808)) ∧ ((v5 = (-1) → KX10_give l E Q 214 [(0, vR E 107), (1, vI v1), (2, vI v2), (3, vI v3), (4, vI v4), (5, vJ r4), (7, vI v7), (8, vI v8), (9, vJ r4), (11, vI 0)] G D4) ∧ (v5 ≠ (-1) → ((-9223372036854775808 ≤ r4 ∧ r4 < 9223372036854775808)) ∧ ((r4 < v5 → KX10_give l E Q 214 [(0, vR E 107), (1, vI v1), (2, vI v2), (3, vI v3), (4, vI v4), (5, vJ r4), (7, vI v7), (8, vI v8), (9, vJ r4), (11, vI 0)] G D4) ∧ (v5 ≤ r4 → KX10_give l E Q 94 [(0, vR E 107), (1, vI v1), (2, vI v2), (3, vI v3), (4, vI v4), (5, vJ v5), (7, vI (v7 + 1))] G D4)))))) ∧ (0 ≤ v9 → ((-2147483648 ≤ v8 ∧ v8 < 2147483648) ∧ (0 < v3 ∧ v3 < 2147483648) ∧ (0 ≤ v9 ∧ v9 < 10) ∧ (-2147483648 ≤ (Int.tmod v8 v3) ∧ (Int.tmod v8 v3) < 2147483648) ∧ (0 ≤ (Int.tmod v8 v3) ∧ (Int.tmod v8 v3) < 4)) ∧ KX10_give l E Q 133 [(0, vR E 107), (1, vI v1), (2, vI v2), (3, vI v3), (4, vI v4), (5, vJ v5), (7, vI v7), (8, vI (Int.tdiv v8 v3)), (9, vI (v9 + (-1)))] G (upd2 (upd2 D 121 v9 (Int.tmod v8 v3)) 122 (Int.tmod v8 v3) (iO (D 122 (Int.tmod v8 v3)) (iSl 1 v9)))))) : KX10_give l E Q 133 [(0, vR E 107), (1, vI v1), (2, vI v2), (3, vI v3), (4, vI v4), (5, vJ v5), (7, vI v7), (8, vI v8), (9, vI v9)] G D := by
  obtain ⟨s1, h⟩ := h
  refine go_iload 8 dX10_give_133 rfl ?_
  refine go_if_lt 180 dX10_give_135 (by decide) s1 (fun c2 => ?_) (fun c2 => ?_)
  · have h := h.1 c2
    refine go_aload_n 0 dX10_give_180 rfl rfl ?_
    refine go_iload_n 1 dX10_give_181 rfl rfl ?_
    refine go_vJ (M := MX10_hungers) [vI v1] [] mv_X10_337 (hL.1 107 _ rfl) rfl (by decide) ⟨Nat.le_of_ble_eq_true rfl, Nat.le_of_ble_eq_true rfl⟩ ⟨Nat.le_refl _, Nat.le_refl _⟩ rfl rfl (Nat.le_of_ble_eq_true rfl) dX10_give_182 h (fun r4 D4 h => ?_)
    obtain ⟨s5, h⟩ := h
    refine go_lstore [1, 2, 3, 4, 5, 6, 7, 8, 0] (L' := [(0, vR E 107), (1, vI v1), (2, vI v2), (3, vI v3), (4, vI v4), (5, vJ v5), (7, vI v7), (8, vI v8), (9, vJ r4)]) dX10_give_185 (by decide) rfl ?_
    refine go_lload 5 dX10_give_187 rfl ?_
    refine go_ldc2 (x := (-1)) k_X10_103 dX10_give_189 ?_
    refine go_lcmp_eq 207 dX10_give_192 dX10_give_193 (by decide) s5 (by decide) (fun c6 => ?_) (fun c6 => ?_)
    · have h := h.1 c6
      refine go_lload 8 dX10_give_207 rfl ?_
      refine go_lstore [1, 2, 3, 4, 5, 0, 6, 7, 8] (L' := [(0, vR E 107), (1, vI v1), (2, vI v2), (3, vI v3), (4, vI v4), (5, vJ r4), (7, vI v7), (8, vI v8), (9, vJ r4)]) dX10_give_209 (by decide) rfl ?_
      refine go_iconst dX10_give_211 ?_
      refine go_istore [1, 2, 3, 4, 5, 6, 7, 8, 9, 0] (L' := [(0, vR E 107), (1, vI v1), (2, vI v2), (3, vI v3), (4, vI v4), (5, vJ r4), (7, vI v7), (8, vI v8), (9, vJ r4), (11, vI 0)]) dX10_give_212 (by decide) rfl ?_
      exact h
    · have h := h.2 c6
      obtain ⟨s8, h⟩ := h
      refine go_lload 8 dX10_give_196 rfl ?_
      refine go_lload 5 dX10_give_198 rfl ?_
      refine go_lcmp_lt 207 dX10_give_200 dX10_give_201 (by decide) s8 s5 (fun c9 => ?_) (fun c9 => ?_)
      · have h := h.1 c9
        refine go_lload 8 dX10_give_207 rfl ?_
        refine go_lstore [1, 2, 3, 4, 5, 0, 6, 7, 8] (L' := [(0, vR E 107), (1, vI v1), (2, vI v2), (3, vI v3), (4, vI v4), (5, vJ r4), (7, vI v7), (8, vI v8), (9, vJ r4)]) dX10_give_209 (by decide) rfl ?_
        refine go_iconst dX10_give_211 ?_
        refine go_istore [1, 2, 3, 4, 5, 6, 7, 8, 9, 0] (L' := [(0, vR E 107), (1, vI v1), (2, vI v2), (3, vI v3), (4, vI v4), (5, vJ r4), (7, vI v7), (8, vI v8), (9, vJ r4), (11, vI 0)]) dX10_give_212 (by decide) rfl ?_
        exact h
      · have h := h.2 c9
        refine go_goto 240 dX10_give_204 (by decide) ?_
        refine go_iinc 6 [1, 2, 3, 4, 5, 6, 0, 7, 8] (L' := [(0, vR E 107), (1, vI v1), (2, vI v2), (3, vI v3), (4, vI v4), (5, vJ v5), (7, vI (v7 + 1)), (8, vI v8), (9, vJ r4)]) dX10_give_240 (by decide) rfl rfl ?_
        refine go_goto 94 dX10_give_243 (by decide) ?_
        refine go_sub [0, 1, 2, 3, 4, 5, 6] (L' := [(0, vR E 107), (1, vI v1), (2, vI v2), (3, vI v3), (4, vI v4), (5, vJ v5), (7, vI (v7 + 1))]) rfl ?_
        exact h
  · have h := h.2 c2
    obtain ⟨s12, h⟩ := h
    refine go_aload_n 0 dX10_give_138 rfl rfl ?_
    refine go_getR 31 f_X10_67 rfl (hL.1 107 _ rfl) (hL.2.1 107 31 _ rfl (by decide)) dX10_give_139 ?_
    refine go_iload 8 dX10_give_142 rfl ?_
    refine go_iload 7 dX10_give_144 rfl ?_
    refine go_iload_n 3 dX10_give_146 rfl rfl ?_
    refine go_irem ⟨s12.1, s12.2.1⟩ dX10_give_147 ?_
    refine go_iastore (hL.1 121 _ rfl) (b := 10) rfl (by decide) s12.2.2.1 s12.2.2.2.1 dX10_give_148 ?_
    refine go_aload_n 0 dX10_give_149 rfl rfl ?_
    refine go_getR 32 f_X10_70 rfl (hL.1 107 _ rfl) (hL.2.1 107 32 _ rfl (by decide)) dX10_give_150 ?_
    refine go_aload_n 0 dX10_give_153 rfl rfl ?_
    refine go_getR 31 f_X10_67 rfl (hL.1 107 _ rfl) (hL.2.1 107 31 _ rfl (by decide)) dX10_give_154 ?_
    refine go_iload 8 dX10_give_157 rfl ?_
    refine go_iaload (hL.1 121 _ rfl) (b := 10) rfl (by decide) s12.2.2.1 dX10_give_159 ?_
    refine go_eqI (y := (Int.tmod v8 v3)) (by first | exact upd2_same _ _ _ _ | simp [upd2]) ?_
    refine go_dup2 rfl rfl dX10_give_160 ?_
    refine go_iaload (hL.1 122 _ rfl) (b := 4) rfl (by decide) s12.2.2.2.2 dX10_give_161 ?_
    refine go_iconst dX10_give_162 ?_
    refine go_iload 8 dX10_give_163 rfl ?_
    refine go_ishl dX10_give_165 ?_
    refine go_ior dX10_give_166 ?_
    refine go_iastore (hL.1 122 _ rfl) (b := 4) rfl (by decide) s12.2.2.2.2 (r32 _) dX10_give_167 ?_
    refine go_iload 7 dX10_give_168 rfl ?_
    refine go_iload_n 3 dX10_give_170 rfl rfl ?_
    refine go_idiv ⟨s12.1, s12.2.1⟩ dX10_give_171 ?_
    refine go_istore [1, 2, 3, 4, 5, 6, 7, 0, 8] (L' := [(0, vR E 107), (1, vI v1), (2, vI v2), (3, vI v3), (4, vI v4), (5, vJ v5), (7, vI v7), (8, vI (Int.tdiv v8 v3)), (9, vI v9)]) dX10_give_172 (by decide) rfl ?_
    refine go_iinc 8 [1, 2, 3, 4, 5, 6, 7, 8, 0] (L' := [(0, vR E 107), (1, vI v1), (2, vI v2), (3, vI v3), (4, vI v4), (5, vJ v5), (7, vI v7), (8, vI (Int.tdiv v8 v3)), (9, vI (v9 + (-1)))]) dX10_give_174 (by decide) rfl rfl ?_
    refine go_goto 133 dX10_give_177 (by decide) ?_
    exact h
theorem s_X10_give_214 {l : Launch} {E : Ev} {Q : Int → Sh → Dm → Prop} {G : Sh} {D : Dm} (hL : Lay G) {v1 v2 v3 v4 v5 v7 v8 v9 v11 : Int}  (h : ((-2147483648 ≤ v11 ∧ v11 < 2147483648) ∧ (-2147483648 ≤ v2 ∧ v2 < 2147483648)) ∧ ((v2 ≤ v11 → KX10_give l E Q 94 [(0, vR E 107), (1, vI v1), (2, vI v2), (3, vI v3), (4, vI v4), (5, vJ v5), (7, vI (v7 + 1))] G D) ∧ (v11 < v2 → ((0 ≤ v11 ∧ v11 < 10)) ∧ KX10_give l E Q 214 [(0, vR E 107), (1, vI v1), (2, vI v2), (3, vI v3), (4, vI v4), (5, vJ v5), (7, vI v7), (8, vI v8), (9, vJ v9), (11, vI (v11 + 1))] G (upd2 D 120 v11 (D 121 v11))))) : KX10_give l E Q 214 [(0, vR E 107), (1, vI v1), (2, vI v2), (3, vI v3), (4, vI v4), (5, vJ v5), (7, vI v7), (8, vI v8), (9, vJ v9), (11, vI v11)] G D := by
  obtain ⟨s1, h⟩ := h
  refine go_iload 9 dX10_give_214 rfl ?_
  refine go_iload_n 2 dX10_give_216 rfl rfl ?_
  refine go_icmp_ge 240 dX10_give_217 (by decide) s1.1 s1.2 (fun c2 => ?_) (fun c2 => ?_)
  · have h := h.1 c2
    refine go_iinc 6 [1, 2, 3, 4, 5, 6, 0, 7, 8, 9] (L' := [(0, vR E 107), (1, vI v1), (2, vI v2), (3, vI v3), (4, vI v4), (5, vJ v5), (7, vI (v7 + 1)), (8, vI v8), (9, vJ v9), (11, vI v11)]) dX10_give_240 (by decide) rfl rfl ?_
    refine go_goto 94 dX10_give_243 (by decide) ?_
    refine go_sub [0, 1, 2, 3, 4, 5, 6] (L' := [(0, vR E 107), (1, vI v1), (2, vI v2), (3, vI v3), (4, vI v4), (5, vJ v5), (7, vI (v7 + 1))]) rfl ?_
    exact h
  · have h := h.2 c2
    obtain ⟨s4, h⟩ := h
    refine go_aload_n 0 dX10_give_220 rfl rfl ?_
    refine go_getR 30 f_X10_64 rfl (hL.1 107 _ rfl) (hL.2.1 107 30 _ rfl (by decide)) dX10_give_221 ?_
    refine go_iload 9 dX10_give_224 rfl ?_
    refine go_aload_n 0 dX10_give_226 rfl rfl ?_
    refine go_getR 31 f_X10_67 rfl (hL.1 107 _ rfl) (hL.2.1 107 31 _ rfl (by decide)) dX10_give_227 ?_
    refine go_iload 9 dX10_give_230 rfl ?_
    refine go_iaload (hL.1 121 _ rfl) (b := 10) rfl (by decide) s4 dX10_give_232 ?_
    refine go_rngI (c := 121) (i := v11) (hL.1 121 _ rfl) rfl (fun (q5 : -2147483648 ≤ (D 121 v11) ∧ (D 121 v11) < 2147483648) => ?_)
    refine go_iastore (hL.1 120 _ rfl) (b := 10) rfl (by decide) s4 q5 dX10_give_233 ?_
    refine go_iinc 9 [1, 2, 3, 4, 5, 6, 7, 8, 9, 0] (L' := [(0, vR E 107), (1, vI v1), (2, vI v2), (3, vI v3), (4, vI v4), (5, vJ v5), (7, vI v7), (8, vI v8), (9, vJ v9), (11, vI (v11 + 1))]) dX10_give_234 (by decide) rfl rfl ?_
    refine go_goto 214 dX10_give_237 (by decide) ?_
    exact h
theorem s_X10_given {l : Launch} {E : Ev} {Q : Int → Sh → Dm → Prop} {G : Sh} {D : Dm} (hL : Lay G) {v1 : Int}  (h : (((D 107 33) ≠ (-1) → ((-2147483648 ≤ v1 ∧ v1 < 2147483648)) ∧ ((v1 < 0 → Q (-1) G (upd2 D 107 1 1)) ∧ (0 ≤ v1 → ((v1 < (D 107 33) → ((0 ≤ v1 ∧ v1 < 10)) ∧ Q (D 120 v1) G (upd2 D 107 1 0)) ∧ ((D 107 33) ≤ v1 → Q (-1) G (upd2 D 107 1 1)))))) ∧ ((D 107 33) = (-1) → Q (-1) G (upd2 D 107 1 6)))) : Ct l E MX10_given 0 0 0 [vR E 107, vI v1] G D Q := by
  refine Ct.of (by decide) (Nat.le_of_ble_eq_true rfl) ?_
  show KX10_given l E Q 0 [(0, vR E 107), (1, vI v1)] G D
  refine go_aload_n 0 dX10_given_0 rfl rfl ?_
  refine go_getI 33 (i := 33) f_X10_73 rfl (hL.1 107 _ rfl) dX10_given_1 ?_
  refine go_iconst dX10_given_4 ?_
  refine go_rngI (c := 107) (i := 33) (hL.1 107 _ rfl) rfl (fun (q2 : -2147483648 ≤ (D 107 33) ∧ (D 107 33) < 2147483648) => ?_)
  refine go_icmp_ne 15 dX10_given_5 (by decide) q2 (by decide) (fun c3 => ?_) (fun c3 => ?_)
  · have h := h.1 c3
    obtain ⟨s4, h⟩ := h
    refine go_iload_n 1 dX10_given_15 rfl rfl ?_
    refine go_if_lt 27 dX10_given_16 (by decide) s4 (fun c5 => ?_) (fun c5 => ?_)
    · have h := h.1 c5
      refine go_aload_n 0 dX10_given_27 rfl rfl ?_
      refine go_iconst dX10_given_28 ?_
      refine go_vIp (M := MX10_refuse) [vI 1] [] mv_X10_194 (hL.1 107 _ rfl) rfl (by decide) ⟨Nat.le_of_ble_eq_true rfl, Nat.le_of_ble_eq_true rfl⟩ ⟨Nat.le_refl _, Nat.le_refl _⟩ rfl rfl (Nat.le_of_ble_eq_true rfl) dX10_given_29 (p_X10_refuse hL (by decide)) ?_
      refine go_goto 45 dX10_given_32 (by decide) ?_
      exact go_ireturn (Nat.le_refl _) (Nat.le_refl _) rfl dX10_given_45 h
    · have h := h.2 c5
      refine go_iload_n 1 dX10_given_19 rfl rfl ?_
      refine go_aload_n 0 dX10_given_20 rfl rfl ?_
      refine go_getI 33 (i := 33) f_X10_73 rfl (hL.1 107 _ rfl) dX10_given_21 ?_
      refine go_icmp_lt 35 dX10_given_24 (by decide) s4 q2 (fun c9 => ?_) (fun c9 => ?_)
      · have h := h.1 c9
        obtain ⟨s10, h⟩ := h
        refine go_aload_n 0 dX10_given_35 rfl rfl ?_
        refine go_aload_n 0 dX10_given_36 rfl rfl ?_
        refine go_getR 30 f_X10_64 rfl (hL.1 107 _ rfl) (hL.2.1 107 30 _ rfl (by decide)) dX10_given_37 ?_
        refine go_iload_n 1 dX10_given_40 rfl rfl ?_
        refine go_iaload (hL.1 120 _ rfl) (b := 10) rfl (by decide) s10 dX10_given_41 ?_
        refine go_vIp (M := MX10_gives) [vI (D 120 v1)] [] mv_X10_204 (hL.1 107 _ rfl) rfl (by decide) ⟨Nat.le_of_ble_eq_true rfl, Nat.le_of_ble_eq_true rfl⟩ ⟨Nat.le_refl _, Nat.le_refl _⟩ rfl rfl (Nat.le_of_ble_eq_true rfl) dX10_given_42 (p_X10_gives hL) ?_
        exact go_ireturn (Nat.le_refl _) (Nat.le_refl _) rfl dX10_given_45 h
      · have h := h.2 c9
        refine go_aload_n 0 dX10_given_27 rfl rfl ?_
        refine go_iconst dX10_given_28 ?_
        refine go_vIp (M := MX10_refuse) [vI 1] [] mv_X10_194 (hL.1 107 _ rfl) rfl (by decide) ⟨Nat.le_of_ble_eq_true rfl, Nat.le_of_ble_eq_true rfl⟩ ⟨Nat.le_refl _, Nat.le_refl _⟩ rfl rfl (Nat.le_of_ble_eq_true rfl) dX10_given_29 (p_X10_refuse hL (by decide)) ?_
        refine go_goto 45 dX10_given_32 (by decide) ?_
        exact go_ireturn (Nat.le_refl _) (Nat.le_refl _) rfl dX10_given_45 h
  · have h := h.2 c3
    refine go_aload_n 0 dX10_given_8 rfl rfl ?_
    refine go_bipush dX10_given_9 (by decide) ?_
    refine go_vIp (M := MX10_refuse) [vI 6] [] mv_X10_194 (hL.1 107 _ rfl) rfl (by decide) ⟨Nat.le_of_ble_eq_true rfl, Nat.le_of_ble_eq_true rfl⟩ ⟨Nat.le_refl _, Nat.le_refl _⟩ rfl rfl (Nat.le_of_ble_eq_true rfl) dX10_given_11 (p_X10_refuse hL (by decide)) ?_
    exact go_ireturn (Nat.le_refl _) (Nat.le_refl _) rfl dX10_given_14 h
theorem s_X10_narrow {l : Launch} {E : Ev} {Q : Int → Sh → Dm → Prop} {G : Sh} {D : Dm} (hL : Lay G) {v1 v2 : Int}  (h : ((-2147483648 ≤ v1 ∧ v1 < 2147483648)) ∧ ((¬ ((0 ≤ v1) ∧ (v1 < (D 108 2))) → Q (-1) G (upd2 D 107 1 1)) ∧ (((0 ≤ v1) ∧ (v1 < (D 108 2))) → ((-2147483648 ≤ v2 ∧ v2 < 2147483648)) ∧ ((v2 < 1 → Q (-1) G (upd2 D 107 1 1)) ∧ (1 ≤ v2 → ((v2 ≤ 16 → C0 l E MX10_held 0 [vR E 107, vI v1] G D (fun r13 D13 => KX10_narrow l E Q 39 [(0, vR E 107), (1, vI v1), (2, vI v2), (3, vI r13), (4, vI (-1))] G (upd2 D13 107 20 0))) ∧ (16 < v2 → Q (-1) G (upd2 D 107 1 1)))))))) : Ct l E MX10_narrow 0 0 0 [vR E 107, vI v1, vI v2] G D Q := by
  refine Ct.of (by decide) (Nat.le_of_ble_eq_true rfl) ?_
  show KX10_narrow l E Q 0 [(0, vR E 107), (1, vI v1), (2, vI v2)] G D
  obtain ⟨s1, h⟩ := h
  refine go_aload_n 0 dX10_narrow_0 rfl rfl ?_
  refine go_iload_n 1 dX10_narrow_1 rfl rfl ?_
  refine go_vIp (M := MX10_isFamily) [vI v1] [] mv_X10_223 (hL.1 107 _ rfl) rfl (by decide) ⟨Nat.le_of_ble_eq_true rfl, Nat.le_of_ble_eq_true rfl⟩ ⟨Nat.le_refl _, Nat.le_refl _⟩ rfl rfl (Nat.le_of_ble_eq_true rfl) dX10_narrow_2 (p_X10_isFamily hL s1) ?_
  refine go_ifb_eq 19 dX10_narrow_5 (by decide) (fun c3 => ?_) (fun c3 => ?_)
  · have h := h.1 c3
    refine go_aload_n 0 dX10_narrow_19 rfl rfl ?_
    refine go_iconst dX10_narrow_20 ?_
    refine go_vIp (M := MX10_refuse) [vI 1] [] mv_X10_194 (hL.1 107 _ rfl) rfl (by decide) ⟨Nat.le_of_ble_eq_true rfl, Nat.le_of_ble_eq_true rfl⟩ ⟨Nat.le_refl _, Nat.le_refl _⟩ rfl rfl (Nat.le_of_ble_eq_true rfl) dX10_narrow_21 (p_X10_refuse hL (by decide)) ?_
    exact go_ireturn (Nat.le_refl _) (Nat.le_refl _) rfl dX10_narrow_24 h
  · have h := h.2 c3
    obtain ⟨s6, h⟩ := h
    refine go_iload_n 2 dX10_narrow_8 rfl rfl ?_
    refine go_iconst dX10_narrow_9 ?_
    refine go_icmp_lt 19 dX10_narrow_10 (by decide) s6 (by decide) (fun c7 => ?_) (fun c7 => ?_)
    · have h := h.1 c7
      refine go_aload_n 0 dX10_narrow_19 rfl rfl ?_
      refine go_iconst dX10_narrow_20 ?_
      refine go_vIp (M := MX10_refuse) [vI 1] [] mv_X10_194 (hL.1 107 _ rfl) rfl (by decide) ⟨Nat.le_of_ble_eq_true rfl, Nat.le_of_ble_eq_true rfl⟩ ⟨Nat.le_refl _, Nat.le_refl _⟩ rfl rfl (Nat.le_of_ble_eq_true rfl) dX10_narrow_21 (p_X10_refuse hL (by decide)) ?_
      exact go_ireturn (Nat.le_refl _) (Nat.le_refl _) rfl dX10_narrow_24 h
    · have h := h.2 c7
      refine go_iload_n 2 dX10_narrow_13 rfl rfl ?_
      refine go_bipush dX10_narrow_14 (by decide) ?_
      refine go_icmp_le 25 dX10_narrow_16 (by decide) s6 (by decide) (fun c11 => ?_) (fun c11 => ?_)
      · have h := h.1 c11
        refine go_aload_n 0 dX10_narrow_25 rfl rfl ?_
        refine go_iload_n 1 dX10_narrow_26 rfl rfl ?_
        refine go_vI (M := MX10_held) [vI v1] [] mv_X10_229 (hL.1 107 _ rfl) rfl (by decide) ⟨Nat.le_of_ble_eq_true rfl, Nat.le_of_ble_eq_true rfl⟩ ⟨Nat.le_refl _, Nat.le_refl _⟩ rfl rfl (Nat.le_of_ble_eq_true rfl) dX10_narrow_27 h (fun r13 D13 h => ?_)
        refine go_istore_n [1, 2, 3, 0] (L' := [(0, vR E 107), (1, vI v1), (2, vI v2), (3, vI r13)]) dX10_narrow_30 rfl (by decide) rfl ?_
        refine go_iconst dX10_narrow_31 ?_
        refine go_istore [1, 2, 3, 4, 0] (L' := [(0, vR E 107), (1, vI v1), (2, vI v2), (3, vI r13), (4, vI (-1))]) dX10_narrow_32 (by decide) rfl ?_
        refine go_aload_n 0 dX10_narrow_34 rfl rfl ?_
        refine go_iconst dX10_narrow_35 ?_
        refine go_putI 20 (i := 20) (by decide) f_X10_234 rfl (hL.1 107 _ rfl) dX10_narrow_36 ?_
        exact h
      · have h := h.2 c11
        refine go_aload_n 0 dX10_narrow_19 rfl rfl ?_
        refine go_iconst dX10_narrow_20 ?_
        refine go_vIp (M := MX10_refuse) [vI 1] [] mv_X10_194 (hL.1 107 _ rfl) rfl (by decide) ⟨Nat.le_of_ble_eq_true rfl, Nat.le_of_ble_eq_true rfl⟩ ⟨Nat.le_refl _, Nat.le_refl _⟩ rfl rfl (Nat.le_of_ble_eq_true rfl) dX10_narrow_21 (p_X10_refuse hL (by decide)) ?_
        exact go_ireturn (Nat.le_refl _) (Nat.le_refl _) rfl dX10_narrow_24 h
theorem s_X10_narrow_39 {l : Launch} {E : Ev} {Q : Int → Sh → Dm → Prop} {G : Sh} {D : Dm} (hL : Lay G) {v1 v2 v3 v4 : Int}  (h : ((6 < (D 107 20) → ((-2147483648 ≤ v4 ∧ v4 < 2147483648)) ∧ ((v4 ≠ (-1) → Q v4 G (upd2 (upd2 D 107 20 0) 107 1 0)) ∧ (v4 = (-1) → Q (-1) G (upd2 (upd2 D 107 20 0) 107 1 6)))) ∧ ((D 107 20) ≤ 6 → ((-2147483648 ≤ v4 ∧ v4 < 2147483648)) ∧ ((v4 ≠ (-1) → ((v4 ≠ (-1) → Q v4 G (upd2 (upd2 D 107 20 0) 107 1 0)) ∧ (v4 = (-1) → Q (-1) G (upd2 (upd2 D 107 20 0) 107 1 6)))) ∧ (v4 = (-1) → ((0 ≤ ((88 + (3 * v1)) + 2) ∧ ((88 + (3 * v1)) + 2) < 500)) ∧ C0 l E MX10_atMost 1 [vR E 107, vI v1, vI v3, vI ((D 108 ((88 + (3 * v1)) + 2)) - 1)] G D (fun r20 D20 => ((-2147483648 ≤ v2 ∧ v2 < 2147483648)) ∧ C0 l E MX10_allLots 1 [vR E 107] G D20 (fun r22 D22 => ((-9223372036854775808 ≤ (16 * r20) ∧ (16 * r20) < 9223372036854775808) ∧ (-9223372036854775808 ≤ (v2 * r22) ∧ (v2 * r22) < 9223372036854775808)) ∧ (((16 * r20) < (v2 * r22) → ((-2147483648 ≤ ((D22 107 20) + 1) ∧ ((D22 107 20) + 1) < 2147483648)) ∧ KX10_narrow l E Q 39 [(0, vR E 107), (1, vI v1), (2, vI v2), (3, vI v3), (4, vI v4)] G (upd2 D22 107 20 ((D22 107 20) + 1))) ∧ ((v2 * r22) ≤ (16 * r20) → ((-2147483648 ≤ ((D22 107 20) + 1) ∧ ((D22 107 20) + 1) < 2147483648)) ∧ KX10_narrow l E Q 39 [(0, vR E 107), (1, vI v1), (2, vI v2), (3, vI v3), (4, vI (D22 107 20))] G (upd2 D22 107 20 ((D22 107 20) + 1))))))))))) : KX10_narrow l E Q 39 [(0, vR E 107), (1, vI v1), (2, vI v2), (3, vI v3), (4, vI v4)] G D := by
  refine go_aload_n 0 dX10_narrow_39 rfl rfl ?_
  refine go_getI 20 (i := 20) f_X10_234 rfl (hL.1 107 _ rfl) dX10_narrow_40 ?_
  refine go_bipush dX10_narrow_43 (by decide) ?_
  refine go_rngI (c := 107) (i := 20) (hL.1 107 _ rfl) rfl (fun (q2 : -2147483648 ≤ (D 107 20) ∧ (D 107 20) < 2147483648) => ?_)
  refine go_icmp_gt 102 dX10_narrow_45 (by decide) q2 (by decide) (fun c3 => ?_) (fun c3 => ?_)
  · have h := h.1 c3
    obtain ⟨s4, h⟩ := h
    refine go_aload_n 0 dX10_narrow_102 rfl rfl ?_
    refine go_iconst dX10_narrow_103 ?_
    refine go_putI 20 (i := 20) (by decide) f_X10_234 rfl (hL.1 107 _ rfl) dX10_narrow_104 ?_
    refine go_iload 4 dX10_narrow_107 rfl ?_
    refine go_iconst dX10_narrow_109 ?_
    refine go_icmp_ne 122 dX10_narrow_110 (by decide) s4 (by decide) (fun c5 => ?_) (fun c5 => ?_)
    · have h := h.1 c5
      refine go_aload_n 0 dX10_narrow_122 rfl rfl ?_
      refine go_iload 4 dX10_narrow_123 rfl ?_
      refine go_vIp (M := MX10_gives) [vI v4] [] mv_X10_204 (hL.1 107 _ rfl) rfl (by decide) ⟨Nat.le_of_ble_eq_true rfl, Nat.le_of_ble_eq_true rfl⟩ ⟨Nat.le_refl _, Nat.le_refl _⟩ rfl rfl (Nat.le_of_ble_eq_true rfl) dX10_narrow_125 (p_X10_gives hL) ?_
      exact go_ireturn (Nat.le_refl _) (Nat.le_refl _) rfl dX10_narrow_128 h
    · have h := h.2 c5
      refine go_aload_n 0 dX10_narrow_113 rfl rfl ?_
      refine go_bipush dX10_narrow_114 (by decide) ?_
      refine go_vIp (M := MX10_refuse) [vI 6] [] mv_X10_194 (hL.1 107 _ rfl) rfl (by decide) ⟨Nat.le_of_ble_eq_true rfl, Nat.le_of_ble_eq_true rfl⟩ ⟨Nat.le_refl _, Nat.le_refl _⟩ rfl rfl (Nat.le_of_ble_eq_true rfl) dX10_narrow_116 (p_X10_refuse hL (by decide)) ?_
      refine go_goto 128 dX10_narrow_119 (by decide) ?_
      exact go_ireturn (Nat.le_refl _) (Nat.le_refl _) rfl dX10_narrow_128 h
  · have h := h.2 c3
    obtain ⟨s10, h⟩ := h
    refine go_iload 4 dX10_narrow_48 rfl ?_
    refine go_iconst dX10_narrow_50 ?_
    refine go_icmp_ne 102 dX10_narrow_51 (by decide) s10 (by decide) (fun c11 => ?_) (fun c11 => ?_)
    · have h := h.1 c11
      refine go_aload_n 0 dX10_narrow_102 rfl rfl ?_
      refine go_iconst dX10_narrow_103 ?_
      refine go_putI 20 (i := 20) (by decide) f_X10_234 rfl (hL.1 107 _ rfl) dX10_narrow_104 ?_
      refine go_iload 4 dX10_narrow_107 rfl ?_
      refine go_iconst dX10_narrow_109 ?_
      refine go_icmp_ne 122 dX10_narrow_110 (by decide) s10 (by decide) (fun c13 => ?_) (fun c13 => ?_)
      · have h := h.1 c13
        refine go_aload_n 0 dX10_narrow_122 rfl rfl ?_
        refine go_iload 4 dX10_narrow_123 rfl ?_
        refine go_vIp (M := MX10_gives) [vI v4] [] mv_X10_204 (hL.1 107 _ rfl) rfl (by decide) ⟨Nat.le_of_ble_eq_true rfl, Nat.le_of_ble_eq_true rfl⟩ ⟨Nat.le_refl _, Nat.le_refl _⟩ rfl rfl (Nat.le_of_ble_eq_true rfl) dX10_narrow_125 (p_X10_gives hL) ?_
        exact go_ireturn (Nat.le_refl _) (Nat.le_refl _) rfl dX10_narrow_128 h
      · have h := h.2 c13
        refine go_aload_n 0 dX10_narrow_113 rfl rfl ?_
        refine go_bipush dX10_narrow_114 (by decide) ?_
        refine go_vIp (M := MX10_refuse) [vI 6] [] mv_X10_194 (hL.1 107 _ rfl) rfl (by decide) ⟨Nat.le_of_ble_eq_true rfl, Nat.le_of_ble_eq_true rfl⟩ ⟨Nat.le_refl _, Nat.le_refl _⟩ rfl rfl (Nat.le_of_ble_eq_true rfl) dX10_narrow_116 (p_X10_refuse hL (by decide)) ?_
        refine go_goto 128 dX10_narrow_119 (by decide) ?_
        exact go_ireturn (Nat.le_refl _) (Nat.le_refl _) rfl dX10_narrow_128 h
    · have h := h.2 c11
      obtain ⟨s18, h⟩ := h
      refine go_ldc2 (x := 16) k_X10_232 dX10_narrow_54 ?_
      refine go_aload_n 0 dX10_narrow_57 rfl rfl ?_
      refine go_iload_n 1 dX10_narrow_58 rfl rfl ?_
      refine go_iload_n 3 dX10_narrow_59 rfl rfl ?_
      refine go_aload_n 0 dX10_narrow_60 rfl rfl ?_
      refine go_iload_n 1 dX10_narrow_61 rfl rfl ?_
      refine go_iconst dX10_narrow_62 ?_
      refine go_vIp (M := MX10_ofFamily) [vI v1, vI 2] [vI v3, vI v1, vR E 107, vJ 16] mv_X10_226 (hL.1 107 _ rfl) rfl (by decide) ⟨Nat.le_of_ble_eq_true rfl, Nat.le_of_ble_eq_true rfl⟩ ⟨Nat.le_refl _, Nat.le_refl _⟩ rfl rfl (Nat.le_of_ble_eq_true rfl) dX10_narrow_63 (p_X10_ofFamily hL s18) ?_
      refine go_iconst dX10_narrow_66 ?_
      refine go_isub dX10_narrow_67 ?_
      refine go_vJ (M := MX10_atMost) [vI v1, vI v3, vI ((D 108 ((88 + (3 * v1)) + 2)) - 1)] [vJ 16] mv_X10_284 (hL.1 107 _ rfl) rfl (by decide) ⟨Nat.le_of_ble_eq_true rfl, Nat.le_of_ble_eq_true rfl⟩ ⟨Nat.le_refl _, Nat.le_refl _⟩ rfl rfl (Nat.le_of_ble_eq_true rfl) dX10_narrow_68 h (fun r20 D20 h => ?_)
      obtain ⟨s21, h⟩ := h
      refine go_lmul dX10_narrow_71 ?_
      refine go_iload_n 2 dX10_narrow_72 rfl rfl ?_
      refine go_i2l s21 dX10_narrow_73 ?_
      refine go_aload_n 0 dX10_narrow_74 rfl rfl ?_
      refine go_vJ (M := MX10_allLots) [] [vJ v2, vJ (16 * r20)] mv_X10_288 (hL.1 107 _ rfl) rfl (by decide) ⟨Nat.le_of_ble_eq_true rfl, Nat.le_of_ble_eq_true rfl⟩ ⟨Nat.le_refl _, Nat.le_refl _⟩ rfl rfl (Nat.le_of_ble_eq_true rfl) dX10_narrow_75 h (fun r22 D22 h => ?_)
      obtain ⟨s23, h⟩ := h
      refine go_lmul dX10_narrow_78 ?_
      refine go_lcmp_lt 89 dX10_narrow_79 dX10_narrow_80 (by decide) s23.1 s23.2 (fun c24 => ?_) (fun c24 => ?_)
      · have h := h.1 c24
        obtain ⟨s25, h⟩ := h
        refine go_aload_n 0 dX10_narrow_89 rfl rfl ?_
        refine go_dup rfl dX10_narrow_90 ?_
        refine go_getI 20 (i := 20) f_X10_234 rfl (hL.1 107 _ rfl) dX10_narrow_91 ?_
        refine go_iconst dX10_narrow_94 ?_
        refine go_iadd dX10_narrow_95 ?_
        refine go_putI 20 (i := 20) s25 f_X10_234 rfl (hL.1 107 _ rfl) dX10_narrow_96 ?_
        refine go_goto 39 dX10_narrow_99 (by decide) ?_
        exact h
      · have h := h.2 c24
        obtain ⟨s26, h⟩ := h
        refine go_aload_n 0 dX10_narrow_83 rfl rfl ?_
        refine go_getI 20 (i := 20) f_X10_234 rfl (hL.1 107 _ rfl) dX10_narrow_84 ?_
        refine go_istore [1, 2, 3, 4, 0] (L' := [(0, vR E 107), (1, vI v1), (2, vI v2), (3, vI v3), (4, vI (D22 107 20))]) dX10_narrow_87 (by decide) rfl ?_
        refine go_aload_n 0 dX10_narrow_89 rfl rfl ?_
        refine go_dup rfl dX10_narrow_90 ?_
        refine go_getI 20 (i := 20) f_X10_234 rfl (hL.1 107 _ rfl) dX10_narrow_91 ?_
        refine go_iconst dX10_narrow_94 ?_
        refine go_iadd dX10_narrow_95 ?_
        refine go_putI 20 (i := 20) s26 f_X10_234 rfl (hL.1 107 _ rfl) dX10_narrow_96 ?_
        refine go_goto 39 dX10_narrow_99 (by decide) ?_
        exact h
theorem s_X10_laysRow {l : Launch} {E : Ev} {Q : Int → Sh → Dm → Prop} {G : Sh} {D : Dm} (hL : Lay G)  (h : KX10_laysRow l E Q 7 [(0, vR E 107), (1, vI 0)] G (upd2 D 107 36 0)) : Ct l E MX10_laysRow 2 0 0 [vR E 107] G D Q := by
  refine Ct.of (by decide) (Nat.le_of_ble_eq_true rfl) ?_
  show KX10_laysRow l E Q 0 [(0, vR E 107)] G D
  refine go_aload_n 0 dX10_laysRow_0 rfl rfl ?_
  refine go_iconst dX10_laysRow_1 ?_
  refine go_putI 36 (i := 36) (by decide) f_X10_340 rfl (hL.1 107 _ rfl) dX10_laysRow_2 ?_
  refine go_iconst dX10_laysRow_5 ?_
  refine go_istore_n [1, 0] (L' := [(0, vR E 107), (1, vI 0)]) dX10_laysRow_6 rfl (by decide) rfl ?_
  exact h
theorem s_X10_laysRow_7 {l : Launch} {E : Ev} {Q : Int → Sh → Dm → Prop} {G : Sh} {D : Dm} (hL : Lay G) {v1 : Int}  (h : ((-2147483648 ≤ v1 ∧ v1 < 2147483648)) ∧ (((D 108 0) ≤ v1 → Q 0 G D) ∧ (v1 < (D 108 0) → ((0 ≤ ((8 + (5 * v1)) + 4) ∧ ((8 + (5 * v1)) + 4) < 500)) ∧ (((D 108 ((8 + (5 * v1)) + 4)) ≠ (-1) → ((0 ≤ (D 107 36) ∧ (D 107 36) < 10) ∧ (-2147483648 ≤ ((D 107 36) + 1) ∧ ((D 107 36) + 1) < 2147483648)) ∧ KX10_laysRow l E Q 7 [(0, vR E 107), (1, vI (v1 + 1))] G (upd2 (upd2 D 123 (D 107 36) v1) 107 36 ((D 107 36) + 1))) ∧ ((D 108 ((8 + (5 * v1)) + 4)) = (-1) → KX10_laysRow l E Q 7 [(0, vR E 107), (1, vI (v1 + 1))] G D))))) : KX10_laysRow l E Q 7 [(0, vR E 107), (1, vI v1)] G D := by
  obtain ⟨s1, h⟩ := h
  refine go_iload_n 1 dX10_laysRow_7 rfl rfl ?_
  refine go_aload_n 0 dX10_laysRow_8 rfl rfl ?_
  refine go_getR 0 f_X10_7 rfl (hL.1 107 _ rfl) (hL.2.1 107 0 _ rfl (by decide)) dX10_laysRow_9 ?_
  refine go_iconst dX10_laysRow_12 ?_
  refine go_iaload (hL.1 108 _ rfl) (b := 500) rfl (by decide) (by decide) dX10_laysRow_13 ?_
  refine go_rngI (c := 108) (i := 0) (hL.1 108 _ rfl) rfl (fun (q2 : -2147483648 ≤ (D 108 0) ∧ (D 108 0) < 2147483648) => ?_)
  refine go_icmp_ge 56 dX10_laysRow_14 (by decide) s1 q2 (fun c3 => ?_) (fun c3 => ?_)
  · have h := h.1 c3
    exact go_return (Nat.le_refl _) (Nat.le_refl _) rfl dX10_laysRow_56 h
  · have h := h.2 c3
    obtain ⟨s5, h⟩ := h
    refine go_aload_n 0 dX10_laysRow_17 rfl rfl ?_
    refine go_iload_n 1 dX10_laysRow_18 rfl rfl ?_
    refine go_iconst dX10_laysRow_19 ?_
    refine go_vIp (M := MX10_ofStrip) [vI v1, vI 4] [] mv_X10_210 (hL.1 107 _ rfl) rfl (by decide) ⟨Nat.le_of_ble_eq_true rfl, Nat.le_of_ble_eq_true rfl⟩ ⟨Nat.le_refl _, Nat.le_refl _⟩ rfl rfl (Nat.le_of_ble_eq_true rfl) dX10_laysRow_20 (p_X10_ofStrip hL s5) ?_
    refine go_iconst dX10_laysRow_23 ?_
    refine go_rngI (c := 108) (i := ((8 + (5 * v1)) + 4)) (hL.1 108 _ rfl) rfl (fun (q7 : -2147483648 ≤ (D 108 ((8 + (5 * v1)) + 4)) ∧ (D 108 ((8 + (5 * v1)) + 4)) < 2147483648) => ?_)
    refine go_icmp_ne 30 dX10_laysRow_24 (by decide) q7 (by decide) (fun c8 => ?_) (fun c8 => ?_)
    · have h := h.1 c8
      obtain ⟨s9, h⟩ := h
      refine go_aload_n 0 dX10_laysRow_30 rfl rfl ?_
      refine go_getR 34 f_X10_76 rfl (hL.1 107 _ rfl) (hL.2.1 107 34 _ rfl (by decide)) dX10_laysRow_31 ?_
      refine go_aload_n 0 dX10_laysRow_34 rfl rfl ?_
      refine go_getI 36 (i := 36) f_X10_340 rfl (hL.1 107 _ rfl) dX10_laysRow_35 ?_
      refine go_iload_n 1 dX10_laysRow_38 rfl rfl ?_
      refine go_iastore (hL.1 123 _ rfl) (b := 10) rfl (by decide) s9.1 s1 dX10_laysRow_39 ?_
      refine go_aload_n 0 dX10_laysRow_40 rfl rfl ?_
      refine go_dup rfl dX10_laysRow_41 ?_
      refine go_getI 36 (i := 36) f_X10_340 rfl (hL.1 107 _ rfl) dX10_laysRow_42 ?_
      refine go_iconst dX10_laysRow_45 ?_
      refine go_iadd dX10_laysRow_46 ?_
      refine go_putI 36 (i := 36) s9.2 f_X10_340 rfl (hL.1 107 _ rfl) dX10_laysRow_47 ?_
      refine go_iinc 1 [1, 0] (L' := [(0, vR E 107), (1, vI (v1 + 1))]) dX10_laysRow_50 (by decide) rfl rfl ?_
      refine go_goto 7 dX10_laysRow_53 (by decide) ?_
      exact h
    · have h := h.2 c8
      refine go_goto 50 dX10_laysRow_27 (by decide) ?_
      refine go_iinc 1 [1, 0] (L' := [(0, vR E 107), (1, vI (v1 + 1))]) dX10_laysRow_50 (by decide) rfl rfl ?_
      refine go_goto 7 dX10_laysRow_53 (by decide) ?_
      exact h
theorem s_X10_isBehind {l : Launch} {E : Ev} {Q : Int → Sh → Dm → Prop} {G : Sh} {D : Dm} (hL : Lay G) {v1 v2 : Int}  (h : ((0 ≤ ((8 + (5 * v1)) + 0) ∧ ((8 + (5 * v1)) + 0) < 500) ∧ (0 ≤ ((8 + (5 * v2)) + 0) ∧ ((8 + (5 * v2)) + 0) < 500)) ∧ (((D 108 ((8 + (5 * v2)) + 0)) < (D 108 ((8 + (5 * v1)) + 0)) → Q 1 G D) ∧ ((D 108 ((8 + (5 * v1)) + 0)) ≤ (D 108 ((8 + (5 * v2)) + 0)) → (((D 108 ((8 + (5 * v1)) + 0)) ≠ (D 108 ((8 + (5 * v2)) + 0)) → Q 0 G D) ∧ ((D 108 ((8 + (5 * v1)) + 0)) = (D 108 ((8 + (5 * v2)) + 0)) → ((0 ≤ ((8 + (5 * v1)) + 1) ∧ ((8 + (5 * v1)) + 1) < 500) ∧ (0 ≤ ((8 + (5 * v2)) + 1) ∧ ((8 + (5 * v2)) + 1) < 500)) ∧ (((D 108 ((8 + (5 * v2)) + 1)) < (D 108 ((8 + (5 * v1)) + 1)) → Q 1 G D) ∧ ((D 108 ((8 + (5 * v1)) + 1)) ≤ (D 108 ((8 + (5 * v2)) + 1)) → (((D 108 ((8 + (5 * v1)) + 1)) ≠ (D 108 ((8 + (5 * v2)) + 1)) → Q 0 G D) ∧ ((D 108 ((8 + (5 * v1)) + 1)) = (D 108 ((8 + (5 * v2)) + 1)) → ((-2147483648 ≤ v1 ∧ v1 < 2147483648) ∧ (-2147483648 ≤ v2 ∧ v2 < 2147483648)) ∧ ((v1 ≤ v2 → Q 0 G D) ∧ (v2 < v1 → Q 1 G D))))))))))) : Ct l E MX10_isBehind 0 0 0 [vR E 107, vI v1, vI v2] G D Q := by
  refine Ct.of (by decide) (Nat.le_of_ble_eq_true rfl) ?_
  show KX10_isBehind l E Q 0 [(0, vR E 107), (1, vI v1), (2, vI v2)] G D
  obtain ⟨s1, h⟩ := h
  refine go_aload_n 0 dX10_isBehind_0 rfl rfl ?_
  refine go_iload_n 1 dX10_isBehind_1 rfl rfl ?_
  refine go_iconst dX10_isBehind_2 ?_
  refine go_vIp (M := MX10_ofStrip) [vI v1, vI 0] [] mv_X10_210 (hL.1 107 _ rfl) rfl (by decide) ⟨Nat.le_of_ble_eq_true rfl, Nat.le_of_ble_eq_true rfl⟩ ⟨Nat.le_refl _, Nat.le_refl _⟩ rfl rfl (Nat.le_of_ble_eq_true rfl) dX10_isBehind_3 (p_X10_ofStrip hL s1.1) ?_
  refine go_aload_n 0 dX10_isBehind_6 rfl rfl ?_
  refine go_iload_n 2 dX10_isBehind_7 rfl rfl ?_
  refine go_iconst dX10_isBehind_8 ?_
  refine go_vIp (M := MX10_ofStrip) [vI v2, vI 0] [vI (D 108 ((8 + (5 * v1)) + 0))] mv_X10_210 (hL.1 107 _ rfl) rfl (by decide) ⟨Nat.le_of_ble_eq_true rfl, Nat.le_of_ble_eq_true rfl⟩ ⟨Nat.le_refl _, Nat.le_refl _⟩ rfl rfl (Nat.le_of_ble_eq_true rfl) dX10_isBehind_9 (p_X10_ofStrip hL s1.2) ?_
  refine go_rngI (c := 108) (i := ((8 + (5 * v1)) + 0)) (hL.1 108 _ rfl) rfl (fun (q4 : -2147483648 ≤ (D 108 ((8 + (5 * v1)) + 0)) ∧ (D 108 ((8 + (5 * v1)) + 0)) < 2147483648) => ?_)
  refine go_rngI (c := 108) (i := ((8 + (5 * v2)) + 0)) (hL.1 108 _ rfl) rfl (fun (q5 : -2147483648 ≤ (D 108 ((8 + (5 * v2)) + 0)) ∧ (D 108 ((8 + (5 * v2)) + 0)) < 2147483648) => ?_)
  refine go_icmp_gt 65 dX10_isBehind_12 (by decide) q4 q5 (fun c6 => ?_) (fun c6 => ?_)
  · have h := h.1 c6
    refine go_iconst dX10_isBehind_65 ?_
    refine go_goto 70 dX10_isBehind_66 (by decide) ?_
    exact go_zreturn (Nat.le_refl _) (Nat.le_refl _) rfl (by decide) dX10_isBehind_70 h
  · have h := h.2 c6
    refine go_aload_n 0 dX10_isBehind_15 rfl rfl ?_
    refine go_iload_n 1 dX10_isBehind_16 rfl rfl ?_
    refine go_iconst dX10_isBehind_17 ?_
    refine go_vIp (M := MX10_ofStrip) [vI v1, vI 0] [] mv_X10_210 (hL.1 107 _ rfl) rfl (by decide) ⟨Nat.le_of_ble_eq_true rfl, Nat.le_of_ble_eq_true rfl⟩ ⟨Nat.le_refl _, Nat.le_refl _⟩ rfl rfl (Nat.le_of_ble_eq_true rfl) dX10_isBehind_18 (p_X10_ofStrip hL s1.1) ?_
    refine go_aload_n 0 dX10_isBehind_21 rfl rfl ?_
    refine go_iload_n 2 dX10_isBehind_22 rfl rfl ?_
    refine go_iconst dX10_isBehind_23 ?_
    refine go_vIp (M := MX10_ofStrip) [vI v2, vI 0] [vI (D 108 ((8 + (5 * v1)) + 0))] mv_X10_210 (hL.1 107 _ rfl) rfl (by decide) ⟨Nat.le_of_ble_eq_true rfl, Nat.le_of_ble_eq_true rfl⟩ ⟨Nat.le_refl _, Nat.le_refl _⟩ rfl rfl (Nat.le_of_ble_eq_true rfl) dX10_isBehind_24 (p_X10_ofStrip hL s1.2) ?_
    refine go_icmp_ne 69 dX10_isBehind_27 (by decide) q4 q5 (fun c11 => ?_) (fun c11 => ?_)
    · have h := h.1 c11
      refine go_iconst dX10_isBehind_69 ?_
      exact go_zreturn (Nat.le_refl _) (Nat.le_refl _) rfl (by decide) dX10_isBehind_70 h
    · have h := h.2 c11
      obtain ⟨s13, h⟩ := h
      refine go_aload_n 0 dX10_isBehind_30 rfl rfl ?_
      refine go_iload_n 1 dX10_isBehind_31 rfl rfl ?_
      refine go_iconst dX10_isBehind_32 ?_
      refine go_vIp (M := MX10_ofStrip) [vI v1, vI 1] [] mv_X10_210 (hL.1 107 _ rfl) rfl (by decide) ⟨Nat.le_of_ble_eq_true rfl, Nat.le_of_ble_eq_true rfl⟩ ⟨Nat.le_refl _, Nat.le_refl _⟩ rfl rfl (Nat.le_of_ble_eq_true rfl) dX10_isBehind_33 (p_X10_ofStrip hL s13.1) ?_
      refine go_aload_n 0 dX10_isBehind_36 rfl rfl ?_
      refine go_iload_n 2 dX10_isBehind_37 rfl rfl ?_
      refine go_iconst dX10_isBehind_38 ?_
      refine go_vIp (M := MX10_ofStrip) [vI v2, vI 1] [vI (D 108 ((8 + (5 * v1)) + 1))] mv_X10_210 (hL.1 107 _ rfl) rfl (by decide) ⟨Nat.le_of_ble_eq_true rfl, Nat.le_of_ble_eq_true rfl⟩ ⟨Nat.le_refl _, Nat.le_refl _⟩ rfl rfl (Nat.le_of_ble_eq_true rfl) dX10_isBehind_39 (p_X10_ofStrip hL s13.2) ?_
      refine go_rngI (c := 108) (i := ((8 + (5 * v1)) + 1)) (hL.1 108 _ rfl) rfl (fun (q16 : -2147483648 ≤ (D 108 ((8 + (5 * v1)) + 1)) ∧ (D 108 ((8 + (5 * v1)) + 1)) < 2147483648) => ?_)
      refine go_rngI (c := 108) (i := ((8 + (5 * v2)) + 1)) (hL.1 108 _ rfl) rfl (fun (q17 : -2147483648 ≤ (D 108 ((8 + (5 * v2)) + 1)) ∧ (D 108 ((8 + (5 * v2)) + 1)) < 2147483648) => ?_)
      refine go_icmp_gt 65 dX10_isBehind_42 (by decide) q16 q17 (fun c18 => ?_) (fun c18 => ?_)
      · have h := h.1 c18
        refine go_iconst dX10_isBehind_65 ?_
        refine go_goto 70 dX10_isBehind_66 (by decide) ?_
        exact go_zreturn (Nat.le_refl _) (Nat.le_refl _) rfl (by decide) dX10_isBehind_70 h
      · have h := h.2 c18
        refine go_aload_n 0 dX10_isBehind_45 rfl rfl ?_
        refine go_iload_n 1 dX10_isBehind_46 rfl rfl ?_
        refine go_iconst dX10_isBehind_47 ?_
        refine go_vIp (M := MX10_ofStrip) [vI v1, vI 1] [] mv_X10_210 (hL.1 107 _ rfl) rfl (by decide) ⟨Nat.le_of_ble_eq_true rfl, Nat.le_of_ble_eq_true rfl⟩ ⟨Nat.le_refl _, Nat.le_refl _⟩ rfl rfl (Nat.le_of_ble_eq_true rfl) dX10_isBehind_48 (p_X10_ofStrip hL s13.1) ?_
        refine go_aload_n 0 dX10_isBehind_51 rfl rfl ?_
        refine go_iload_n 2 dX10_isBehind_52 rfl rfl ?_
        refine go_iconst dX10_isBehind_53 ?_
        refine go_vIp (M := MX10_ofStrip) [vI v2, vI 1] [vI (D 108 ((8 + (5 * v1)) + 1))] mv_X10_210 (hL.1 107 _ rfl) rfl (by decide) ⟨Nat.le_of_ble_eq_true rfl, Nat.le_of_ble_eq_true rfl⟩ ⟨Nat.le_refl _, Nat.le_refl _⟩ rfl rfl (Nat.le_of_ble_eq_true rfl) dX10_isBehind_54 (p_X10_ofStrip hL s13.2) ?_
        refine go_icmp_ne 69 dX10_isBehind_57 (by decide) q16 q17 (fun c23 => ?_) (fun c23 => ?_)
        · have h := h.1 c23
          refine go_iconst dX10_isBehind_69 ?_
          exact go_zreturn (Nat.le_refl _) (Nat.le_refl _) rfl (by decide) dX10_isBehind_70 h
        · have h := h.2 c23
          obtain ⟨s25, h⟩ := h
          refine go_iload_n 1 dX10_isBehind_60 rfl rfl ?_
          refine go_iload_n 2 dX10_isBehind_61 rfl rfl ?_
          refine go_icmp_le 69 dX10_isBehind_62 (by decide) s25.1 s25.2 (fun c26 => ?_) (fun c26 => ?_)
          · have h := h.1 c26
            refine go_iconst dX10_isBehind_69 ?_
            exact go_zreturn (Nat.le_refl _) (Nat.le_refl _) rfl (by decide) dX10_isBehind_70 h
          · have h := h.2 c26
            refine go_iconst dX10_isBehind_65 ?_
            refine go_goto 70 dX10_isBehind_66 (by decide) ?_
            exact go_zreturn (Nat.le_refl _) (Nat.le_refl _) rfl (by decide) dX10_isBehind_70 h
theorem p_X10_isBehind {l : Launch} {E : Ev} {G : Sh} {D : Dm} (hL : Lay G) {v1 v2 : Int}  (q0 : 0 ≤ ((8 + (5 * v1)) + 0) ∧ ((8 + (5 * v1)) + 0) < 500) (q1 : 0 ≤ ((8 + (5 * v2)) + 0) ∧ ((8 + (5 * v2)) + 0) < 500) (q2 : 0 ≤ ((8 + (5 * v1)) + 1) ∧ ((8 + (5 * v1)) + 1) < 500) (q3 : 0 ≤ ((8 + (5 * v2)) + 1) ∧ ((8 + (5 * v2)) + 1) < 500) (q4 : -2147483648 ≤ v1 ∧ v1 < 2147483648) (q5 : -2147483648 ≤ v2 ∧ v2 < 2147483648) : C0 l E MX10_isBehind 0 [vR E 107, vI v1, vI v2] G D (fun r D' => r = (if (((D 108 ((8 + (5 * v2)) + 0)) < (D 108 ((8 + (5 * v1)) + 0))) ∨ (((D 108 ((8 + (5 * v1)) + 0)) = (D 108 ((8 + (5 * v2)) + 0))) ∧ (((D 108 ((8 + (5 * v2)) + 1)) < (D 108 ((8 + (5 * v1)) + 1))) ∨ (((D 108 ((8 + (5 * v1)) + 1)) = (D 108 ((8 + (5 * v2)) + 1))) ∧ (v2 < v1))))) then 1 else 0) ∧ D' = D) := by
  refine s_X10_isBehind hL ?_
  refine ⟨⟨q0, q1⟩, ?_⟩
  refine ⟨fun hc => ?_, fun hc => ?_⟩
  · refine ⟨rfl, ?_, rfl⟩
    (split <;> first | rfl | (exfalso; simp_all; done) | omega | simp_all)
  · refine ⟨fun hc => ?_, fun hc => ?_⟩
    · refine ⟨rfl, ?_, rfl⟩
      (split <;> first | rfl | (exfalso; simp_all; done) | omega | simp_all)
    · refine ⟨⟨q2, q3⟩, ?_⟩
      refine ⟨fun hc => ?_, fun hc => ?_⟩
      · refine ⟨rfl, ?_, rfl⟩
        (split <;> first | rfl | (exfalso; simp_all; done) | omega | simp_all)
      · refine ⟨fun hc => ?_, fun hc => ?_⟩
        · refine ⟨rfl, ?_, rfl⟩
          (split <;> first | rfl | (exfalso; simp_all; done) | omega | simp_all)
        · refine ⟨⟨q4, q5⟩, ?_⟩
          refine ⟨fun hc => ?_, fun hc => ?_⟩
          · refine ⟨rfl, ?_, rfl⟩
            (split <;> first | rfl | (exfalso; simp_all; done) | omega | simp_all)
          · refine ⟨rfl, ?_, rfl⟩
            (split <;> first | rfl | (exfalso; simp_all; done) | omega | simp_all)
theorem s_X10_deals {l : Launch} {E : Ev} {Q : Int → Sh → Dm → Prop} {G : Sh} {D : Dm} (hL : Lay G)  (h : KX10_deals l E Q 4 [(0, vR E 107), (1, vI 0), (2, vI 0)] G D) : Ct l E MX10_deals 2 0 0 [vR E 107] G D Q := by
  refine Ct.of (by decide) (Nat.le_of_ble_eq_true rfl) ?_
  show KX10_deals l E Q 0 [(0, vR E 107)] G D
  refine go_iconst dX10_deals_0 ?_
  refine go_istore_n [1, 0] (L' := [(0, vR E 107), (1, vI 0)]) dX10_deals_1 rfl (by decide) rfl ?_
  refine go_iconst dX10_deals_2 ?_
  refine go_istore_n [1, 2, 0] (L' := [(0, vR E 107), (1, vI 0), (2, vI 0)]) dX10_deals_3 rfl (by decide) rfl ?_
  exact h
theorem s_X10_deals_4 {l : Launch} {E : Ev} {Q : Int → Sh → Dm → Prop} {G : Sh} {D : Dm} (hL : Lay G) {v1 v2 : Int}  (h : ((-2147483648 ≤ v2 ∧ v2 < 2147483648)) ∧ (((D 108 2) ≤ v2 → Q 0 G D) ∧ (v2 < (D 108 2) → ((0 ≤ v2 ∧ v2 < 4)) ∧ C0 l E MX10_held 0 [vR E 107, vI v2] G (upd2 D 124 v2 0) (fun r6 D6 => C0 l E MX10_bits 0 [vI r6] G D6 (fun r8 D8 => KX10_deals l E Q 30 [(0, vR E 107), (1, vI v1), (2, vI v2), (3, vI r8)] G D8))))) : KX10_deals l E Q 4 [(0, vR E 107), (1, vI v1), (2, vI v2)] G D := by
  obtain ⟨s1, h⟩ := h
  refine go_iload_n 2 dX10_deals_4 rfl rfl ?_
  refine go_aload_n 0 dX10_deals_5 rfl rfl ?_
  refine go_getR 0 f_X10_7 rfl (hL.1 107 _ rfl) (hL.2.1 107 0 _ rfl (by decide)) dX10_deals_6 ?_
  refine go_iconst dX10_deals_9 ?_
  refine go_iaload (hL.1 108 _ rfl) (b := 500) rfl (by decide) (by decide) dX10_deals_10 ?_
  refine go_rngI (c := 108) (i := 2) (hL.1 108 _ rfl) rfl (fun (q2 : -2147483648 ≤ (D 108 2) ∧ (D 108 2) < 2147483648) => ?_)
  refine go_icmp_ge 66 dX10_deals_11 (by decide) s1 q2 (fun c3 => ?_) (fun c3 => ?_)
  · have h := h.1 c3
    exact go_return (Nat.le_refl _) (Nat.le_refl _) rfl dX10_deals_66 h
  · have h := h.2 c3
    obtain ⟨s5, h⟩ := h
    refine go_aload_n 0 dX10_deals_14 rfl rfl ?_
    refine go_getR 35 f_X10_79 rfl (hL.1 107 _ rfl) (hL.2.1 107 35 _ rfl (by decide)) dX10_deals_15 ?_
    refine go_iload_n 2 dX10_deals_18 rfl rfl ?_
    refine go_iconst dX10_deals_19 ?_
    refine go_iastore (hL.1 124 _ rfl) (b := 4) rfl (by decide) s5 (by decide) dX10_deals_20 ?_
    refine go_aload_n 0 dX10_deals_21 rfl rfl ?_
    refine go_iload_n 2 dX10_deals_22 rfl rfl ?_
    refine go_vI (M := MX10_held) [vI v2] [] mv_X10_229 (hL.1 107 _ rfl) rfl (by decide) ⟨Nat.le_of_ble_eq_true rfl, Nat.le_of_ble_eq_true rfl⟩ ⟨Nat.le_refl _, Nat.le_refl _⟩ rfl rfl (Nat.le_of_ble_eq_true rfl) dX10_deals_23 h (fun r6 D6 h => ?_)
    refine go_sI (M := MX10_bits) [vI r6] [] ms_X10_302 ⟨Nat.le_of_ble_eq_true rfl, Nat.le_of_ble_eq_true rfl⟩ ⟨Nat.le_refl _, Nat.le_refl _⟩ rfl rfl (Nat.le_of_ble_eq_true rfl) dX10_deals_26 h (fun r8 D8 h => ?_)
    refine go_istore_n [1, 2, 3, 0] (L' := [(0, vR E 107), (1, vI v1), (2, vI v2), (3, vI r8)]) dX10_deals_29 rfl (by decide) rfl ?_
    exact h
theorem s_X10_deals_30 {l : Launch} {E : Ev} {Q : Int → Sh → Dm → Prop} {G : Sh} {D : Dm} (hL : Lay G) {v1 v2 v3 : Int}  (h : ((-2147483648 ≤ v3 ∧ v3 < 2147483648)) ∧ ((v3 ≤ 0 → KX10_deals l E Q 4 [(0, vR E 107), (1, vI v1), (2, vI (v2 + 1))] G D) ∧ (0 < v3 → ((0 ≤ v2 ∧ v2 < 4) ∧ (0 ≤ v1 ∧ v1 < 10)) ∧ KX10_deals l E Q 30 [(0, vR E 107), (1, vI (v1 + 1)), (2, vI v2), (3, vI (v3 + (-1)))] G (upd2 D 124 v2 (iO (D 124 v2) (iSl 1 (D 123 v1))))))) : KX10_deals l E Q 30 [(0, vR E 107), (1, vI v1), (2, vI v2), (3, vI v3)] G D := by
  obtain ⟨s1, h⟩ := h
  refine go_iload_n 3 dX10_deals_30 rfl rfl ?_
  refine go_if_le 60 dX10_deals_31 (by decide) s1 (fun c2 => ?_) (fun c2 => ?_)
  · have h := h.1 c2
    refine go_iinc 2 [1, 2, 0, 3] (L' := [(0, vR E 107), (1, vI v1), (2, vI (v2 + 1)), (3, vI v3)]) dX10_deals_60 (by decide) rfl rfl ?_
    refine go_goto 4 dX10_deals_63 (by decide) ?_
    refine go_sub [0, 1, 2] (L' := [(0, vR E 107), (1, vI v1), (2, vI (v2 + 1))]) rfl ?_
    exact h
  · have h := h.2 c2
    obtain ⟨s4, h⟩ := h
    refine go_aload_n 0 dX10_deals_34 rfl rfl ?_
    refine go_getR 35 f_X10_79 rfl (hL.1 107 _ rfl) (hL.2.1 107 35 _ rfl (by decide)) dX10_deals_35 ?_
    refine go_iload_n 2 dX10_deals_38 rfl rfl ?_
    refine go_dup2 rfl rfl dX10_deals_39 ?_
    refine go_iaload (hL.1 124 _ rfl) (b := 4) rfl (by decide) s4.1 dX10_deals_40 ?_
    refine go_iconst dX10_deals_41 ?_
    refine go_aload_n 0 dX10_deals_42 rfl rfl ?_
    refine go_getR 34 f_X10_76 rfl (hL.1 107 _ rfl) (hL.2.1 107 34 _ rfl (by decide)) dX10_deals_43 ?_
    refine go_iload_n 1 dX10_deals_46 rfl rfl ?_
    refine go_iaload (hL.1 123 _ rfl) (b := 10) rfl (by decide) s4.2 dX10_deals_47 ?_
    refine go_ishl dX10_deals_48 ?_
    refine go_ior dX10_deals_49 ?_
    refine go_iastore (hL.1 124 _ rfl) (b := 4) rfl (by decide) s4.1 (r32 _) dX10_deals_50 ?_
    refine go_iinc 1 [1, 0, 2, 3] (L' := [(0, vR E 107), (1, vI (v1 + 1)), (2, vI v2), (3, vI v3)]) dX10_deals_51 (by decide) rfl rfl ?_
    refine go_iinc 3 [1, 2, 3, 0] (L' := [(0, vR E 107), (1, vI (v1 + 1)), (2, vI v2), (3, vI (v3 + (-1)))]) dX10_deals_54 (by decide) rfl rfl ?_
    refine go_goto 30 dX10_deals_57 (by decide) ?_
    exact h
theorem s_X10_together {l : Launch} {E : Ev} {Q : Int → Sh → Dm → Prop} {G : Sh} {D : Dm} (hL : Lay G)  (h : C0 l E MX10_laysRow 2 [vR E 107] G D (fun r2 D2 => KX10_together l E Q 6 [(0, vR E 107), (1, vI 1)] G D2)) : Ct l E MX10_together 0 0 0 [vR E 107] G D Q := by
  refine Ct.of (by decide) (Nat.le_of_ble_eq_true rfl) ?_
  show KX10_together l E Q 0 [(0, vR E 107)] G D
  refine go_aload_n 0 dX10_together_0 rfl rfl ?_
  refine go_vV (M := MX10_laysRow) [] [] mv_X10_343 (hL.1 107 _ rfl) rfl (by decide) ⟨Nat.le_of_ble_eq_true rfl, Nat.le_of_ble_eq_true rfl⟩ ⟨Nat.le_refl _, Nat.le_refl _⟩ rfl rfl (Nat.le_of_ble_eq_true rfl) dX10_together_1 h (fun r2 D2 h => ?_)
  refine go_iconst dX10_together_4 ?_
  refine go_istore_n [1, 0] (L' := [(0, vR E 107), (1, vI 1)]) dX10_together_5 rfl (by decide) rfl ?_
  exact h
theorem s_X10_together_6 {l : Launch} {E : Ev} {Q : Int → Sh → Dm → Prop} {G : Sh} {D : Dm} (hL : Lay G) {v1 : Int}  (h : ((-2147483648 ≤ v1 ∧ v1 < 2147483648)) ∧ (((D 107 36) ≤ v1 → C0 l E MX10_deals 2 [vR E 107] G D (fun r5 D5 => KX10_together l E Q 84 [(0, vR E 107), (1, vI 0), (2, vI 0)] G D5)) ∧ (v1 < (D 107 36) → ((0 ≤ v1 ∧ v1 < 10)) ∧ KX10_together l E Q 23 [(0, vR E 107), (1, vI v1), (2, vI (D 123 v1)), (3, vI v1)] G D))) : KX10_together l E Q 6 [(0, vR E 107), (1, vI v1)] G D := by
  obtain ⟨s1, h⟩ := h
  refine go_iload_n 1 dX10_together_6 rfl rfl ?_
  refine go_aload_n 0 dX10_together_7 rfl rfl ?_
  refine go_getI 36 (i := 36) f_X10_340 rfl (hL.1 107 _ rfl) dX10_together_8 ?_
  refine go_rngI (c := 107) (i := 36) (hL.1 107 _ rfl) rfl (fun (q2 : -2147483648 ≤ (D 107 36) ∧ (D 107 36) < 2147483648) => ?_)
  refine go_icmp_ge 76 dX10_together_11 (by decide) s1 q2 (fun c3 => ?_) (fun c3 => ?_)
  · have h := h.1 c3
    refine go_aload_n 0 dX10_together_76 rfl rfl ?_
    refine go_vV (M := MX10_deals) [] [] mv_X10_349 (hL.1 107 _ rfl) rfl (by decide) ⟨Nat.le_of_ble_eq_true rfl, Nat.le_of_ble_eq_true rfl⟩ ⟨Nat.le_refl _, Nat.le_refl _⟩ rfl rfl (Nat.le_of_ble_eq_true rfl) dX10_together_77 h (fun r5 D5 h => ?_)
    refine go_iconst dX10_together_80 ?_
    refine go_istore_n [1, 0] (L' := [(0, vR E 107), (1, vI 0)]) dX10_together_81 rfl (by decide) rfl ?_
    refine go_iconst dX10_together_82 ?_
    refine go_istore_n [1, 2, 0] (L' := [(0, vR E 107), (1, vI 0), (2, vI 0)]) dX10_together_83 rfl (by decide) rfl ?_
    exact h
  · have h := h.2 c3
    obtain ⟨s7, h⟩ := h
    refine go_aload_n 0 dX10_together_14 rfl rfl ?_
    refine go_getR 34 f_X10_76 rfl (hL.1 107 _ rfl) (hL.2.1 107 34 _ rfl (by decide)) dX10_together_15 ?_
    refine go_iload_n 1 dX10_together_18 rfl rfl ?_
    refine go_iaload (hL.1 123 _ rfl) (b := 10) rfl (by decide) s7 dX10_together_19 ?_
    refine go_istore_n [1, 2, 0] (L' := [(0, vR E 107), (1, vI v1), (2, vI (D 123 v1))]) dX10_together_20 rfl (by decide) rfl ?_
    refine go_iload_n 1 dX10_together_21 rfl rfl ?_
    refine go_istore_n [1, 2, 3, 0] (L' := [(0, vR E 107), (1, vI v1), (2, vI (D 123 v1)), (3, vI v1)]) dX10_together_22 rfl (by decide) rfl ?_
    exact h
theorem s_X10_together_23 {l : Launch} {E : Ev} {Q : Int → Sh → Dm → Prop} {G : Sh} {D : Dm} (hL : Lay G) {v1 v2 v3 : Int}  (h : ((-2147483648 ≤ v3 ∧ v3 < 2147483648)) ∧ ((v3 ≤ 0 → ((0 ≤ v3 ∧ v3 < 10) ∧ (-2147483648 ≤ v2 ∧ v2 < 2147483648)) ∧ KX10_together l E Q 6 [(0, vR E 107), (1, vI (v1 + 1))] G (upd2 D 123 v3 v2)) ∧ (0 < v3 → ((0 ≤ (v3 - 1) ∧ (v3 - 1) < 10) ∧ (0 ≤ ((8 + (5 * (D 123 (v3 - 1)))) + 0) ∧ ((8 + (5 * (D 123 (v3 - 1)))) + 0) < 500) ∧ (0 ≤ ((8 + (5 * v2)) + 0) ∧ ((8 + (5 * v2)) + 0) < 500) ∧ (0 ≤ ((8 + (5 * (D 123 (v3 - 1)))) + 1) ∧ ((8 + (5 * (D 123 (v3 - 1)))) + 1) < 500) ∧ (0 ≤ ((8 + (5 * v2)) + 1) ∧ ((8 + (5 * v2)) + 1) < 500) ∧ (-2147483648 ≤ v2 ∧ v2 < 2147483648)) ∧ ((¬ (((D 108 ((8 + (5 * v2)) + 0)) < (D 108 ((8 + (5 * (D 123 (v3 - 1)))) + 0))) ∨ (((D 108 ((8 + (5 * (D 123 (v3 - 1)))) + 0)) = (D 108 ((8 + (5 * v2)) + 0))) ∧ (((D 108 ((8 + (5 * v2)) + 1)) < (D 108 ((8 + (5 * (D 123 (v3 - 1)))) + 1))) ∨ (((D 108 ((8 + (5 * (D 123 (v3 - 1)))) + 1)) = (D 108 ((8 + (5 * v2)) + 1))) ∧ (v2 < (D 123 (v3 - 1))))))) → ((0 ≤ v3 ∧ v3 < 10)) ∧ KX10_together l E Q 6 [(0, vR E 107), (1, vI (v1 + 1))] G (upd2 D 123 v3 v2)) ∧ ((((D 108 ((8 + (5 * v2)) + 0)) < (D 108 ((8 + (5 * (D 123 (v3 - 1)))) + 0))) ∨ (((D 108 ((8 + (5 * (D 123 (v3 - 1)))) + 0)) = (D 108 ((8 + (5 * v2)) + 0))) ∧ (((D 108 ((8 + (5 * v2)) + 1)) < (D 108 ((8 + (5 * (D 123 (v3 - 1)))) + 1))) ∨ (((D 108 ((8 + (5 * (D 123 (v3 - 1)))) + 1)) = (D 108 ((8 + (5 * v2)) + 1))) ∧ (v2 < (D 123 (v3 - 1))))))) → ((0 ≤ v3 ∧ v3 < 10)) ∧ KX10_together l E Q 23 [(0, vR E 107), (1, vI v1), (2, vI v2), (3, vI (v3 + (-1)))] G (upd2 D 123 v3 (D 123 (v3 - 1)))))))) : KX10_together l E Q 23 [(0, vR E 107), (1, vI v1), (2, vI v2), (3, vI v3)] G D := by
  obtain ⟨s1, h⟩ := h
  refine go_iload_n 3 dX10_together_23 rfl rfl ?_
  refine go_if_le 63 dX10_together_24 (by decide) s1 (fun c2 => ?_) (fun c2 => ?_)
  · have h := h.1 c2
    obtain ⟨s3, h⟩ := h
    refine go_aload_n 0 dX10_together_63 rfl rfl ?_
    refine go_getR 34 f_X10_76 rfl (hL.1 107 _ rfl) (hL.2.1 107 34 _ rfl (by decide)) dX10_together_64 ?_
    refine go_iload_n 3 dX10_together_67 rfl rfl ?_
    refine go_iload_n 2 dX10_together_68 rfl rfl ?_
    refine go_iastore (hL.1 123 _ rfl) (b := 10) rfl (by decide) s3.1 s3.2 dX10_together_69 ?_
    refine go_iinc 1 [1, 0, 2, 3] (L' := [(0, vR E 107), (1, vI (v1 + 1)), (2, vI v2), (3, vI v3)]) dX10_together_70 (by decide) rfl rfl ?_
    refine go_goto 6 dX10_together_73 (by decide) ?_
    refine go_sub [0, 1] (L' := [(0, vR E 107), (1, vI (v1 + 1))]) rfl ?_
    exact h
  · have h := h.2 c2
    obtain ⟨s4, h⟩ := h
    refine go_aload_n 0 dX10_together_27 rfl rfl ?_
    refine go_aload_n 0 dX10_together_28 rfl rfl ?_
    refine go_getR 34 f_X10_76 rfl (hL.1 107 _ rfl) (hL.2.1 107 34 _ rfl (by decide)) dX10_together_29 ?_
    refine go_iload_n 3 dX10_together_32 rfl rfl ?_
    refine go_iconst dX10_together_33 ?_
    refine go_isub dX10_together_34 ?_
    refine go_iaload (hL.1 123 _ rfl) (b := 10) rfl (by decide) s4.1 dX10_together_35 ?_
    refine go_iload_n 2 dX10_together_36 rfl rfl ?_
    refine go_rngI (c := 123) (i := (v3 - 1)) (hL.1 123 _ rfl) rfl (fun (q6 : -2147483648 ≤ (D 123 (v3 - 1)) ∧ (D 123 (v3 - 1)) < 2147483648) => ?_)
    refine go_vIp (M := MX10_isBehind) [vI (D 123 (v3 - 1)), vI v2] [] mv_X10_346 (hL.1 107 _ rfl) rfl (by decide) ⟨Nat.le_of_ble_eq_true rfl, Nat.le_of_ble_eq_true rfl⟩ ⟨Nat.le_refl _, Nat.le_refl _⟩ rfl rfl (Nat.le_of_ble_eq_true rfl) dX10_together_37 (p_X10_isBehind hL s4.2.1 s4.2.2.1 s4.2.2.2.1 s4.2.2.2.2.1 q6 s4.2.2.2.2.2) ?_
    refine go_ifb_eq 63 dX10_together_40 (by decide) (fun c7 => ?_) (fun c7 => ?_)
    · have h := h.1 c7
      obtain ⟨s8, h⟩ := h
      refine go_aload_n 0 dX10_together_63 rfl rfl ?_
      refine go_getR 34 f_X10_76 rfl (hL.1 107 _ rfl) (hL.2.1 107 34 _ rfl (by decide)) dX10_together_64 ?_
      refine go_iload_n 3 dX10_together_67 rfl rfl ?_
      refine go_iload_n 2 dX10_together_68 rfl rfl ?_
      refine go_iastore (hL.1 123 _ rfl) (b := 10) rfl (by decide) s8 s4.2.2.2.2.2 dX10_together_69 ?_
      refine go_iinc 1 [1, 0, 2, 3] (L' := [(0, vR E 107), (1, vI (v1 + 1)), (2, vI v2), (3, vI v3)]) dX10_together_70 (by decide) rfl rfl ?_
      refine go_goto 6 dX10_together_73 (by decide) ?_
      refine go_sub [0, 1] (L' := [(0, vR E 107), (1, vI (v1 + 1))]) rfl ?_
      exact h
    · have h := h.2 c7
      obtain ⟨s9, h⟩ := h
      refine go_aload_n 0 dX10_together_43 rfl rfl ?_
      refine go_getR 34 f_X10_76 rfl (hL.1 107 _ rfl) (hL.2.1 107 34 _ rfl (by decide)) dX10_together_44 ?_
      refine go_iload_n 3 dX10_together_47 rfl rfl ?_
      refine go_aload_n 0 dX10_together_48 rfl rfl ?_
      refine go_getR 34 f_X10_76 rfl (hL.1 107 _ rfl) (hL.2.1 107 34 _ rfl (by decide)) dX10_together_49 ?_
      refine go_iload_n 3 dX10_together_52 rfl rfl ?_
      refine go_iconst dX10_together_53 ?_
      refine go_isub dX10_together_54 ?_
      refine go_iaload (hL.1 123 _ rfl) (b := 10) rfl (by decide) s4.1 dX10_together_55 ?_
      refine go_iastore (hL.1 123 _ rfl) (b := 10) rfl (by decide) s9 q6 dX10_together_56 ?_
      refine go_iinc 3 [1, 2, 3, 0] (L' := [(0, vR E 107), (1, vI v1), (2, vI v2), (3, vI (v3 + (-1)))]) dX10_together_57 (by decide) rfl rfl ?_
      refine go_goto 23 dX10_together_60 (by decide) ?_
      exact h
theorem s_X10_together_84 {l : Launch} {E : Ev} {Q : Int → Sh → Dm → Prop} {G : Sh} {D : Dm} (hL : Lay G) {v1 v2 : Int}  (h : ((-2147483648 ≤ v2 ∧ v2 < 2147483648)) ∧ (((D 108 2) ≤ v2 → Q v1 G (upd2 D 107 1 0)) ∧ (v2 < (D 108 2) → ((0 ≤ v2 ∧ v2 < 4)) ∧ C0 l E MX10_worthOf 1 [vR E 107, vI v2, vI (D 124 v2)] G D (fun r7 D7 => C0 l E MX10_held 0 [vR E 107, vI v2] G D7 (fun r9 D9 => C0 l E MX10_worthOf 1 [vR E 107, vI v2, vI r9] G D9 (fun r11 D11 => ((-9223372036854775808 ≤ r7 ∧ r7 < 9223372036854775808) ∧ (-9223372036854775808 ≤ r11 ∧ r11 < 9223372036854775808)) ∧ ((r11 ≤ r7 → KX10_together l E Q 84 [(0, vR E 107), (1, vI (iO v1 0)), (2, vI (v2 + 1))] G D11) ∧ (r7 < r11 → KX10_together l E Q 84 [(0, vR E 107), (1, vI (iO v1 (iSl 1 v2))), (2, vI (v2 + 1))] G D11)))))))) : KX10_together l E Q 84 [(0, vR E 107), (1, vI v1), (2, vI v2)] G D := by
  obtain ⟨s1, h⟩ := h
  refine go_iload_n 2 dX10_together_84 rfl rfl ?_
  refine go_aload_n 0 dX10_together_85 rfl rfl ?_
  refine go_getR 0 f_X10_7 rfl (hL.1 107 _ rfl) (hL.2.1 107 0 _ rfl (by decide)) dX10_together_86 ?_
  refine go_iconst dX10_together_89 ?_
  refine go_iaload (hL.1 108 _ rfl) (b := 500) rfl (by decide) (by decide) dX10_together_90 ?_
  refine go_rngI (c := 108) (i := 2) (hL.1 108 _ rfl) rfl (fun (q2 : -2147483648 ≤ (D 108 2) ∧ (D 108 2) < 2147483648) => ?_)
  refine go_icmp_ge 135 dX10_together_91 (by decide) s1 q2 (fun c3 => ?_) (fun c3 => ?_)
  · have h := h.1 c3
    refine go_aload_n 0 dX10_together_135 rfl rfl ?_
    refine go_iload_n 1 dX10_together_136 rfl rfl ?_
    refine go_vIp (M := MX10_gives) [vI v1] [] mv_X10_204 (hL.1 107 _ rfl) rfl (by decide) ⟨Nat.le_of_ble_eq_true rfl, Nat.le_of_ble_eq_true rfl⟩ ⟨Nat.le_refl _, Nat.le_refl _⟩ rfl rfl (Nat.le_of_ble_eq_true rfl) dX10_together_137 (p_X10_gives hL) ?_
    exact go_ireturn (Nat.le_refl _) (Nat.le_refl _) rfl dX10_together_140 h
  · have h := h.2 c3
    obtain ⟨s6, h⟩ := h
    refine go_iload_n 1 dX10_together_94 rfl rfl ?_
    refine go_aload_n 0 dX10_together_95 rfl rfl ?_
    refine go_iload_n 2 dX10_together_96 rfl rfl ?_
    refine go_aload_n 0 dX10_together_97 rfl rfl ?_
    refine go_getR 35 f_X10_79 rfl (hL.1 107 _ rfl) (hL.2.1 107 35 _ rfl (by decide)) dX10_together_98 ?_
    refine go_iload_n 2 dX10_together_101 rfl rfl ?_
    refine go_iaload (hL.1 124 _ rfl) (b := 4) rfl (by decide) s6 dX10_together_102 ?_
    refine go_vJ (M := MX10_worthOf) [vI v2, vI (D 124 v2)] [vI v1] mv_X10_295 (hL.1 107 _ rfl) rfl (by decide) ⟨Nat.le_of_ble_eq_true rfl, Nat.le_of_ble_eq_true rfl⟩ ⟨Nat.le_refl _, Nat.le_refl _⟩ rfl rfl (Nat.le_of_ble_eq_true rfl) dX10_together_103 h (fun r7 D7 h => ?_)
    refine go_aload_n 0 dX10_together_106 rfl rfl ?_
    refine go_iload_n 2 dX10_together_107 rfl rfl ?_
    refine go_aload_n 0 dX10_together_108 rfl rfl ?_
    refine go_iload_n 2 dX10_together_109 rfl rfl ?_
    refine go_vI (M := MX10_held) [vI v2] [vI v2, vR E 107, vJ r7, vI v1] mv_X10_229 (hL.1 107 _ rfl) rfl (by decide) ⟨Nat.le_of_ble_eq_true rfl, Nat.le_of_ble_eq_true rfl⟩ ⟨Nat.le_refl _, Nat.le_refl _⟩ rfl rfl (Nat.le_of_ble_eq_true rfl) dX10_together_110 h (fun r9 D9 h => ?_)
    refine go_vJ (M := MX10_worthOf) [vI v2, vI r9] [vJ r7, vI v1] mv_X10_295 (hL.1 107 _ rfl) rfl (by decide) ⟨Nat.le_of_ble_eq_true rfl, Nat.le_of_ble_eq_true rfl⟩ ⟨Nat.le_refl _, Nat.le_refl _⟩ rfl rfl (Nat.le_of_ble_eq_true rfl) dX10_together_113 h (fun r11 D11 h => ?_)
    obtain ⟨s12, h⟩ := h
    refine go_lcmp_ge 126 dX10_together_116 dX10_together_117 (by decide) s12.1 s12.2 (fun c13 => ?_) (fun c13 => ?_)
    · have h := h.1 c13
      refine go_iconst dX10_together_126 ?_
      refine go_ior dX10_together_127 ?_
      refine go_istore_n [1, 0, 2] (L' := [(0, vR E 107), (1, vI (iO v1 0)), (2, vI v2)]) dX10_together_128 rfl (by decide) rfl ?_
      refine go_iinc 2 [1, 2, 0] (L' := [(0, vR E 107), (1, vI (iO v1 0)), (2, vI (v2 + 1))]) dX10_together_129 (by decide) rfl rfl ?_
      refine go_goto 84 dX10_together_132 (by decide) ?_
      exact h
    · have h := h.2 c13
      refine go_iconst dX10_together_120 ?_
      refine go_iload_n 2 dX10_together_121 rfl rfl ?_
      refine go_ishl dX10_together_122 ?_
      refine go_goto 127 dX10_together_123 (by decide) ?_
      refine go_ior dX10_together_127 ?_
      refine go_istore_n [1, 0, 2] (L' := [(0, vR E 107), (1, vI (iO v1 (iSl 1 v2))), (2, vI v2)]) dX10_together_128 rfl (by decide) rfl ?_
      refine go_iinc 2 [1, 2, 0] (L' := [(0, vR E 107), (1, vI (iO v1 (iSl 1 v2))), (2, vI (v2 + 1))]) dX10_together_129 (by decide) rfl rfl ?_
      refine go_goto 84 dX10_together_132 (by decide) ?_
      exact h
theorem s_X10_wrongYears {l : Launch} {E : Ev} {Q : Int → Sh → Dm → Prop} {G : Sh} {D : Dm} (hL : Lay G) {v1 v2 v3 : Int}  (h : ((-2147483648 ≤ v1 ∧ v1 < 2147483648)) ∧ ((v1 = 0 → Q 1 G D) ∧ (v1 ≠ 0 → ((-2147483648 ≤ v2 ∧ v2 < 2147483648)) ∧ ((¬ ((0 ≤ v2) ∧ (v2 < 4)) → Q 1 G D) ∧ (((0 ≤ v2) ∧ (v2 < 4)) → ((-2147483648 ≤ v3 ∧ v3 < 2147483648)) ∧ ((v3 < 1 → Q 1 G D) ∧ (1 ≤ v3 → ((v3 ≤ 60 → ((0 ≤ v2 ∧ v2 < 4)) ∧ (((D 110 v2) ≠ (-1) → ((v3 ≤ (D 110 v2) → KX10_wrongYears l E Q 54 [(0, vR E 107), (1, vI v1), (2, vI v2), (3, vI v3), (4, vI 1), (5, vI 0)] G D) ∧ ((D 110 v2) < v3 → Q 3 G D))) ∧ ((D 110 v2) = (-1) → Q 2 G D))) ∧ (60 < v3 → Q 1 G D))))))))) : Ct l E MX10_wrongYears 0 0 0 [vR E 107, vI v1, vI v2, vI v3] G D Q := by
  refine Ct.of (by decide) (Nat.le_of_ble_eq_true rfl) ?_
  show KX10_wrongYears l E Q 0 [(0, vR E 107), (1, vI v1), (2, vI v2), (3, vI v3)] G D
  obtain ⟨s1, h⟩ := h
  refine go_iload_n 1 dX10_wrongYears_0 rfl rfl ?_
  refine go_if_eq 22 dX10_wrongYears_1 (by decide) s1 (fun c2 => ?_) (fun c2 => ?_)
  · have h := h.1 c2
    refine go_iconst dX10_wrongYears_22 ?_
    exact go_ireturn (Nat.le_refl _) (Nat.le_refl _) rfl dX10_wrongYears_23 h
  · have h := h.2 c2
    obtain ⟨s4, h⟩ := h
    refine go_iload_n 2 dX10_wrongYears_4 rfl rfl ?_
    refine go_sIp (M := MX10_isTray) [vI v2] [] ms_X10_92 ⟨Nat.le_of_ble_eq_true rfl, Nat.le_of_ble_eq_true rfl⟩ ⟨Nat.le_refl _, Nat.le_refl _⟩ rfl rfl (Nat.le_of_ble_eq_true rfl) dX10_wrongYears_5 (p_X10_isTray hL s4) ?_
    refine go_ifb_eq 22 dX10_wrongYears_8 (by decide) (fun c6 => ?_) (fun c6 => ?_)
    · have h := h.1 c6
      refine go_iconst dX10_wrongYears_22 ?_
      exact go_ireturn (Nat.le_refl _) (Nat.le_refl _) rfl dX10_wrongYears_23 h
    · have h := h.2 c6
      obtain ⟨s8, h⟩ := h
      refine go_iload_n 3 dX10_wrongYears_11 rfl rfl ?_
      refine go_iconst dX10_wrongYears_12 ?_
      refine go_icmp_lt 22 dX10_wrongYears_13 (by decide) s8 (by decide) (fun c9 => ?_) (fun c9 => ?_)
      · have h := h.1 c9
        refine go_iconst dX10_wrongYears_22 ?_
        exact go_ireturn (Nat.le_refl _) (Nat.le_refl _) rfl dX10_wrongYears_23 h
      · have h := h.2 c9
        refine go_iload_n 3 dX10_wrongYears_16 rfl rfl ?_
        refine go_bipush dX10_wrongYears_17 (by decide) ?_
        refine go_icmp_le 24 dX10_wrongYears_19 (by decide) s8 (by decide) (fun c12 => ?_) (fun c12 => ?_)
        · have h := h.1 c12
          obtain ⟨s13, h⟩ := h
          refine go_aload_n 0 dX10_wrongYears_24 rfl rfl ?_
          refine go_getR 5 f_X10_20 rfl (hL.1 107 _ rfl) (hL.2.1 107 5 _ rfl (by decide)) dX10_wrongYears_25 ?_
          refine go_iload_n 2 dX10_wrongYears_28 rfl rfl ?_
          refine go_iaload (hL.1 110 _ rfl) (b := 4) rfl (by decide) s13 dX10_wrongYears_29 ?_
          refine go_iconst dX10_wrongYears_30 ?_
          refine go_rngI (c := 110) (i := v2) (hL.1 110 _ rfl) rfl (fun (q14 : -2147483648 ≤ (D 110 v2) ∧ (D 110 v2) < 2147483648) => ?_)
          refine go_icmp_ne 36 dX10_wrongYears_31 (by decide) q14 (by decide) (fun c15 => ?_) (fun c15 => ?_)
          · have h := h.1 c15
            refine go_aload_n 0 dX10_wrongYears_36 rfl rfl ?_
            refine go_getR 5 f_X10_20 rfl (hL.1 107 _ rfl) (hL.2.1 107 5 _ rfl (by decide)) dX10_wrongYears_37 ?_
            refine go_iload_n 2 dX10_wrongYears_40 rfl rfl ?_
            refine go_iaload (hL.1 110 _ rfl) (b := 4) rfl (by decide) s13 dX10_wrongYears_41 ?_
            refine go_iload_n 3 dX10_wrongYears_42 rfl rfl ?_
            refine go_icmp_ge 48 dX10_wrongYears_43 (by decide) q14 s8 (fun c17 => ?_) (fun c17 => ?_)
            · have h := h.1 c17
              refine go_iconst dX10_wrongYears_48 ?_
              refine go_istore [1, 2, 3, 4, 0] (L' := [(0, vR E 107), (1, vI v1), (2, vI v2), (3, vI v3), (4, vI 1)]) dX10_wrongYears_49 (by decide) rfl ?_
              refine go_iconst dX10_wrongYears_51 ?_
              refine go_istore [1, 2, 3, 4, 5, 0] (L' := [(0, vR E 107), (1, vI v1), (2, vI v2), (3, vI v3), (4, vI 1), (5, vI 0)]) dX10_wrongYears_52 (by decide) rfl ?_
              exact h
            · have h := h.2 c17
              refine go_iconst dX10_wrongYears_46 ?_
              exact go_ireturn (Nat.le_refl _) (Nat.le_refl _) rfl dX10_wrongYears_47 h
          · have h := h.2 c15
            refine go_iconst dX10_wrongYears_34 ?_
            exact go_ireturn (Nat.le_refl _) (Nat.le_refl _) rfl dX10_wrongYears_35 h
        · have h := h.2 c12
          refine go_iconst dX10_wrongYears_22 ?_
          exact go_ireturn (Nat.le_refl _) (Nat.le_refl _) rfl dX10_wrongYears_23 h
theorem s_X10_wrongYears_54 {l : Launch} {E : Ev} {Q : Int → Sh → Dm → Prop} {G : Sh} {D : Dm} (hL : Lay G) {v1 v2 v3 v4 v5 : Int}  (h : ((-2147483648 ≤ v5 ∧ v5 < 2147483648) ∧ (-2147483648 ≤ v3 ∧ v3 < 2147483648)) ∧ ((v3 ≤ v5 → ((-2147483648 ≤ v4 ∧ v4 < 2147483648)) ∧ ((v4 = 0 → Q 1 G D) ∧ (v4 ≠ 0 → Q 0 G D))) ∧ (v5 < v3 → ((-2147483648 ≤ v4 ∧ v4 < 2147483648)) ∧ ((v4 = 0 → KX10_wrongYears l E Q 54 [(0, vR E 107), (1, vI v1), (2, vI v2), (3, vI v3), (4, vI 0), (5, vI (v5 + 1))] G D) ∧ (v4 ≠ 0 → ((0 ≤ ((60 * v2) + v5) ∧ ((60 * v2) + v5) < 240)) ∧ ((¬ ((0 ≤ (D 111 ((60 * v2) + v5))) ∧ ((D 111 ((60 * v2) + v5)) < (jSl 1 (D 108 1)))) → KX10_wrongYears l E Q 54 [(0, vR E 107), (1, vI v1), (2, vI v2), (3, vI v3), (4, vI 0), (5, vI (v5 + 1))] G D) ∧ (((0 ≤ (D 111 ((60 * v2) + v5))) ∧ ((D 111 ((60 * v2) + v5)) < (jSl 1 (D 108 1)))) → KX10_wrongYears l E Q 54 [(0, vR E 107), (1, vI v1), (2, vI v2), (3, vI v3), (4, vI 1), (5, vI (v5 + 1))] G D))))))) : KX10_wrongYears l E Q 54 [(0, vR E 107), (1, vI v1), (2, vI v2), (3, vI v3), (4, vI v4), (5, vI v5)] G D := by
  obtain ⟨s1, h⟩ := h
  refine go_iload 5 dX10_wrongYears_54 rfl ?_
  refine go_iload_n 3 dX10_wrongYears_56 rfl rfl ?_
  refine go_icmp_ge 97 dX10_wrongYears_57 (by decide) s1.1 s1.2 (fun c2 => ?_) (fun c2 => ?_)
  · have h := h.1 c2
    obtain ⟨s3, h⟩ := h
    refine go_iload 4 dX10_wrongYears_97 rfl ?_
    refine go_if_eq 106 dX10_wrongYears_99 (by decide) s3 (fun c4 => ?_) (fun c4 => ?_)
    · have h := h.1 c4
      refine go_iconst dX10_wrongYears_106 ?_
      exact go_ireturn (Nat.le_refl _) (Nat.le_refl _) rfl dX10_wrongYears_107 h
    · have h := h.2 c4
      refine go_iconst dX10_wrongYears_102 ?_
      refine go_goto 107 dX10_wrongYears_103 (by decide) ?_
      exact go_ireturn (Nat.le_refl _) (Nat.le_refl _) rfl dX10_wrongYears_107 h
  · have h := h.2 c2
    obtain ⟨s7, h⟩ := h
    refine go_iload 4 dX10_wrongYears_60 rfl ?_
    refine go_if_eq 88 dX10_wrongYears_62 (by decide) s7 (fun c8 => ?_) (fun c8 => ?_)
    · have h := h.1 c8
      refine go_iconst dX10_wrongYears_88 ?_
      refine go_istore [1, 2, 3, 4, 0, 5] (L' := [(0, vR E 107), (1, vI v1), (2, vI v2), (3, vI v3), (4, vI 0), (5, vI v5)]) dX10_wrongYears_89 (by decide) rfl ?_
      refine go_iinc 5 [1, 2, 3, 4, 5, 0] (L' := [(0, vR E 107), (1, vI v1), (2, vI v2), (3, vI v3), (4, vI 0), (5, vI (v5 + 1))]) dX10_wrongYears_91 (by decide) rfl rfl ?_
      refine go_goto 54 dX10_wrongYears_94 (by decide) ?_
      exact h
    · have h := h.2 c8
      obtain ⟨s10, h⟩ := h
      refine go_aload_n 0 dX10_wrongYears_65 rfl rfl ?_
      refine go_aload_n 0 dX10_wrongYears_66 rfl rfl ?_
      refine go_getR 6 f_X10_23 rfl (hL.1 107 _ rfl) (hL.2.1 107 6 _ rfl (by decide)) dX10_wrongYears_67 ?_
      refine go_bipush dX10_wrongYears_70 (by decide) ?_
      refine go_iload_n 2 dX10_wrongYears_72 rfl rfl ?_
      refine go_imul dX10_wrongYears_73 ?_
      refine go_iload 5 dX10_wrongYears_74 rfl ?_
      refine go_iadd dX10_wrongYears_76 ?_
      refine go_laload (hL.1 111 _ rfl) (b := 240) rfl (by decide) s10 dX10_wrongYears_77 ?_
      refine go_rngJ (c := 111) (i := ((60 * v2) + v5)) (hL.1 111 _ rfl) rfl (fun (q12 : -9223372036854775808 ≤ (D 111 ((60 * v2) + v5)) ∧ (D 111 ((60 * v2) + v5)) < 9223372036854775808) => ?_)
      refine go_vIp (M := MX10_isLot) [vJ (D 111 ((60 * v2) + v5))] [] mv_X10_273 (hL.1 107 _ rfl) rfl (by decide) ⟨Nat.le_of_ble_eq_true rfl, Nat.le_of_ble_eq_true rfl⟩ ⟨Nat.le_refl _, Nat.le_refl _⟩ rfl rfl (Nat.le_of_ble_eq_true rfl) dX10_wrongYears_78 (p_X10_isLot hL q12) ?_
      refine go_ifb_eq 88 dX10_wrongYears_81 (by decide) (fun c13 => ?_) (fun c13 => ?_)
      · have h := h.1 c13
        refine go_iconst dX10_wrongYears_88 ?_
        refine go_istore [1, 2, 3, 4, 0, 5] (L' := [(0, vR E 107), (1, vI v1), (2, vI v2), (3, vI v3), (4, vI 0), (5, vI v5)]) dX10_wrongYears_89 (by decide) rfl ?_
        refine go_iinc 5 [1, 2, 3, 4, 5, 0] (L' := [(0, vR E 107), (1, vI v1), (2, vI v2), (3, vI v3), (4, vI 0), (5, vI (v5 + 1))]) dX10_wrongYears_91 (by decide) rfl rfl ?_
        refine go_goto 54 dX10_wrongYears_94 (by decide) ?_
        exact h
      · have h := h.2 c13
        refine go_iconst dX10_wrongYears_84 ?_
        refine go_goto 89 dX10_wrongYears_85 (by decide) ?_
        refine go_istore [1, 2, 3, 4, 0, 5] (L' := [(0, vR E 107), (1, vI v1), (2, vI v2), (3, vI v3), (4, vI 1), (5, vI v5)]) dX10_wrongYears_89 (by decide) rfl ?_
        refine go_iinc 5 [1, 2, 3, 4, 5, 0] (L' := [(0, vR E 107), (1, vI v1), (2, vI v2), (3, vI v3), (4, vI 1), (5, vI (v5 + 1))]) dX10_wrongYears_91 (by decide) rfl rfl ?_
        refine go_goto 54 dX10_wrongYears_94 (by decide) ?_
        exact h
theorem s_X10_starvesIn {l : Launch} {E : Ev} {Q : Int → Sh → Dm → Prop} {G : Sh} {D : Dm} (hL : Lay G) {v1 v2 v3 v4 : Int}  (h : C0 l E MX10_goesRound 2 [vR E 107, vI v1, vI v2] G D (fun r2 D2 => KX10_starvesIn l E Q 12 [(0, vR E 107), (1, vI v1), (2, vI v2), (3, vI v3), (4, vI v4), (5, vI 0), (6, vI 0)] G D2)) : Ct l E MX10_starvesIn 0 0 0 [vR E 107, vI v1, vI v2, vI v3, vI v4] G D Q := by
  refine Ct.of (by decide) (Nat.le_of_ble_eq_true rfl) ?_
  show KX10_starvesIn l E Q 0 [(0, vR E 107), (1, vI v1), (2, vI v2), (3, vI v3), (4, vI v4)] G D
  refine go_aload_n 0 dX10_starvesIn_0 rfl rfl ?_
  refine go_iload_n 1 dX10_starvesIn_1 rfl rfl ?_
  refine go_iload_n 2 dX10_starvesIn_2 rfl rfl ?_
  refine go_vV (M := MX10_goesRound) [vI v1, vI v2] [] mv_X10_257 (hL.1 107 _ rfl) rfl (by decide) ⟨Nat.le_of_ble_eq_true rfl, Nat.le_of_ble_eq_true rfl⟩ ⟨Nat.le_refl _, Nat.le_refl _⟩ rfl rfl (Nat.le_of_ble_eq_true rfl) dX10_starvesIn_3 h (fun r2 D2 h => ?_)
  refine go_iconst dX10_starvesIn_6 ?_
  refine go_istore [1, 2, 3, 4, 5, 0] (L' := [(0, vR E 107), (1, vI v1), (2, vI v2), (3, vI v3), (4, vI v4), (5, vI 0)]) dX10_starvesIn_7 (by decide) rfl ?_
  refine go_iconst dX10_starvesIn_9 ?_
  refine go_istore [1, 2, 3, 4, 5, 6, 0] (L' := [(0, vR E 107), (1, vI v1), (2, vI v2), (3, vI v3), (4, vI v4), (5, vI 0), (6, vI 0)]) dX10_starvesIn_10 (by decide) rfl ?_
  exact h
theorem s_X10_starvesIn_12 {l : Launch} {E : Ev} {Q : Int → Sh → Dm → Prop} {G : Sh} {D : Dm} (hL : Lay G) {v1 v2 v3 v4 v5 v6 : Int}  (h : ((-2147483648 ≤ v6 ∧ v6 < 2147483648) ∧ (-2147483648 ≤ v4 ∧ v4 < 2147483648)) ∧ ((v4 ≤ v6 → Q v5 G D) ∧ (v6 < v4 → ((0 ≤ ((60 * v3) + v6) ∧ ((60 * v3) + v6) < 240)) ∧ C0 l E MX10_netOf 0 [vR E 107, vI v2, vI (D 111 ((60 * v3) + v6))] G D (fun r5 D5 => ((0 ≤ ((88 + (3 * v1)) + 2) ∧ ((88 + (3 * v1)) + 2) < 500) ∧ (-2147483648 ≤ r5 ∧ r5 < 2147483648)) ∧ (((D5 108 ((88 + (3 * v1)) + 2)) ≤ r5 → KX10_starvesIn l E Q 12 [(0, vR E 107), (1, vI v1), (2, vI v2), (3, vI v3), (4, vI v4), (5, vI (v5 + 0)), (6, vI (v6 + 1))] G D5) ∧ (r5 < (D5 108 ((88 + (3 * v1)) + 2)) → KX10_starvesIn l E Q 12 [(0, vR E 107), (1, vI v1), (2, vI v2), (3, vI v3), (4, vI v4), (5, vI (v5 + 1)), (6, vI (v6 + 1))] G D5)))))) : KX10_starvesIn l E Q 12 [(0, vR E 107), (1, vI v1), (2, vI v2), (3, vI v3), (4, vI v4), (5, vI v5), (6, vI v6)] G D := by
  obtain ⟨s1, h⟩ := h
  refine go_iload 6 dX10_starvesIn_12 rfl ?_
  refine go_iload 4 dX10_starvesIn_14 rfl ?_
  refine go_icmp_ge 62 dX10_starvesIn_16 (by decide) s1.1 s1.2 (fun c2 => ?_) (fun c2 => ?_)
  · have h := h.1 c2
    refine go_iload 5 dX10_starvesIn_62 rfl ?_
    exact go_ireturn (Nat.le_refl _) (Nat.le_refl _) rfl dX10_starvesIn_64 h
  · have h := h.2 c2
    obtain ⟨s4, h⟩ := h
    refine go_iload 5 dX10_starvesIn_19 rfl ?_
    refine go_aload_n 0 dX10_starvesIn_21 rfl rfl ?_
    refine go_iload_n 2 dX10_starvesIn_22 rfl rfl ?_
    refine go_aload_n 0 dX10_starvesIn_23 rfl rfl ?_
    refine go_getR 6 f_X10_23 rfl (hL.1 107 _ rfl) (hL.2.1 107 6 _ rfl (by decide)) dX10_starvesIn_24 ?_
    refine go_bipush dX10_starvesIn_27 (by decide) ?_
    refine go_iload_n 3 dX10_starvesIn_29 rfl rfl ?_
    refine go_imul dX10_starvesIn_30 ?_
    refine go_iload 6 dX10_starvesIn_31 rfl ?_
    refine go_iadd dX10_starvesIn_33 ?_
    refine go_laload (hL.1 111 _ rfl) (b := 240) rfl (by decide) s4 dX10_starvesIn_34 ?_
    refine go_l2i dX10_starvesIn_35 ?_
    refine go_vI (M := MX10_netOf) [vI v2, vI (D 111 ((60 * v3) + v6))] [vI v5] mv_X10_267 (hL.1 107 _ rfl) rfl (by decide) ⟨Nat.le_of_ble_eq_true rfl, Nat.le_of_ble_eq_true rfl⟩ ⟨Nat.le_refl _, Nat.le_refl _⟩ rfl rfl (Nat.le_of_ble_eq_true rfl) dX10_starvesIn_36 h (fun r5 D5 h => ?_)
    obtain ⟨s6, h⟩ := h
    refine go_aload_n 0 dX10_starvesIn_39 rfl rfl ?_
    refine go_iload_n 1 dX10_starvesIn_40 rfl rfl ?_
    refine go_iconst dX10_starvesIn_41 ?_
    refine go_vIp (M := MX10_ofFamily) [vI v1, vI 2] [vI r5, vI v5] mv_X10_226 (hL.1 107 _ rfl) rfl (by decide) ⟨Nat.le_of_ble_eq_true rfl, Nat.le_of_ble_eq_true rfl⟩ ⟨Nat.le_refl _, Nat.le_refl _⟩ rfl rfl (Nat.le_of_ble_eq_true rfl) dX10_starvesIn_42 (p_X10_ofFamily hL s6.1) ?_
    refine go_rngI (c := 108) (i := ((88 + (3 * v1)) + 2)) (hL.1 108 _ rfl) rfl (fun (q8 : -2147483648 ≤ (D5 108 ((88 + (3 * v1)) + 2)) ∧ (D5 108 ((88 + (3 * v1)) + 2)) < 2147483648) => ?_)
    refine go_icmp_ge 52 dX10_starvesIn_45 (by decide) s6.2 q8 (fun c9 => ?_) (fun c9 => ?_)
    · have h := h.1 c9
      refine go_iconst dX10_starvesIn_52 ?_
      refine go_iadd dX10_starvesIn_53 ?_
      refine go_istore [1, 2, 3, 4, 5, 0, 6] (L' := [(0, vR E 107), (1, vI v1), (2, vI v2), (3, vI v3), (4, vI v4), (5, vI (v5 + 0)), (6, vI v6)]) dX10_starvesIn_54 (by decide) rfl ?_
      refine go_iinc 6 [1, 2, 3, 4, 5, 6, 0] (L' := [(0, vR E 107), (1, vI v1), (2, vI v2), (3, vI v3), (4, vI v4), (5, vI (v5 + 0)), (6, vI (v6 + 1))]) dX10_starvesIn_56 (by decide) rfl rfl ?_
      refine go_goto 12 dX10_starvesIn_59 (by decide) ?_
      exact h
    · have h := h.2 c9
      refine go_iconst dX10_starvesIn_48 ?_
      refine go_goto 53 dX10_starvesIn_49 (by decide) ?_
      refine go_iadd dX10_starvesIn_53 ?_
      refine go_istore [1, 2, 3, 4, 5, 0, 6] (L' := [(0, vR E 107), (1, vI v1), (2, vI v2), (3, vI v3), (4, vI v4), (5, vI (v5 + 1)), (6, vI v6)]) dX10_starvesIn_54 (by decide) rfl ?_
      refine go_iinc 6 [1, 2, 3, 4, 5, 6, 0] (L' := [(0, vR E 107), (1, vI v1), (2, vI v2), (3, vI v3), (4, vI v4), (5, vI (v5 + 1)), (6, vI (v6 + 1))]) dX10_starvesIn_56 (by decide) rfl rfl ?_
      refine go_goto 12 dX10_starvesIn_59 (by decide) ?_
      exact h
theorem s_X10_starved {l : Launch} {E : Ev} {Q : Int → Sh → Dm → Prop} {G : Sh} {D : Dm} (hL : Lay G) {v1 v2 v3 : Int}  (h : ((-2147483648 ≤ v1 ∧ v1 < 2147483648)) ∧ C0 l E MX10_wrongYears 0 [vR E 107, vI (if ((0 ≤ v1) ∧ (v1 < (D 108 2))) then 1 else 0), vI v2, vI v3] G D (fun r3 D3 => ((-2147483648 ≤ r3 ∧ r3 < 2147483648)) ∧ ((r3 ≤ 0 → C0 l E MX10_held 0 [vR E 107, vI v1] G D3 (fun r7 D7 => C0 l E MX10_starvesIn 0 [vR E 107, vI v1, vI r7, vI v2, vI v3] G D7 (fun r9 D9 => Q r9 G (upd2 D9 107 1 0)))) ∧ (0 < r3 → Q (-1) G (upd2 D3 107 1 r3))))) : Ct l E MX10_starved 0 0 0 [vR E 107, vI v1, vI v2, vI v3] G D Q := by
  refine Ct.of (by decide) (Nat.le_of_ble_eq_true rfl) ?_
  show KX10_starved l E Q 0 [(0, vR E 107), (1, vI v1), (2, vI v2), (3, vI v3)] G D
  obtain ⟨s1, h⟩ := h
  refine go_aload_n 0 dX10_starved_0 rfl rfl ?_
  refine go_aload_n 0 dX10_starved_1 rfl rfl ?_
  refine go_iload_n 1 dX10_starved_2 rfl rfl ?_
  refine go_vIp (M := MX10_isFamily) [vI v1] [vR E 107] mv_X10_223 (hL.1 107 _ rfl) rfl (by decide) ⟨Nat.le_of_ble_eq_true rfl, Nat.le_of_ble_eq_true rfl⟩ ⟨Nat.le_refl _, Nat.le_refl _⟩ rfl rfl (Nat.le_of_ble_eq_true rfl) dX10_starved_3 (p_X10_isFamily hL s1) ?_
  refine go_iload_n 2 dX10_starved_6 rfl rfl ?_
  refine go_iload_n 3 dX10_starved_7 rfl rfl ?_
  refine go_vI (M := MX10_wrongYears) [vI (if ((0 ≤ v1) ∧ (v1 < (D 108 2))) then 1 else 0), vI v2, vI v3] [] mv_X10_352 (hL.1 107 _ rfl) rfl (by decide) ⟨Nat.le_of_ble_eq_true rfl, Nat.le_of_ble_eq_true rfl⟩ ⟨Nat.le_refl _, Nat.le_refl _⟩ rfl rfl (Nat.le_of_ble_eq_true rfl) dX10_starved_8 h (fun r3 D3 h => ?_)
  obtain ⟨s4, h⟩ := h
  refine go_istore [1, 2, 3, 4, 0] (L' := [(0, vR E 107), (1, vI v1), (2, vI v2), (3, vI v3), (4, vI r3)]) dX10_starved_11 (by decide) rfl ?_
  refine go_iload 4 dX10_starved_13 rfl ?_
  refine go_if_le 27 dX10_starved_15 (by decide) s4 (fun c5 => ?_) (fun c5 => ?_)
  · have h := h.1 c5
    refine go_aload_n 0 dX10_starved_27 rfl rfl ?_
    refine go_aload_n 0 dX10_starved_28 rfl rfl ?_
    refine go_iload_n 1 dX10_starved_29 rfl rfl ?_
    refine go_aload_n 0 dX10_starved_30 rfl rfl ?_
    refine go_iload_n 1 dX10_starved_31 rfl rfl ?_
    refine go_vI (M := MX10_held) [vI v1] [vI v1, vR E 107, vR E 107] mv_X10_229 (hL.1 107 _ rfl) rfl (by decide) ⟨Nat.le_of_ble_eq_true rfl, Nat.le_of_ble_eq_true rfl⟩ ⟨Nat.le_refl _, Nat.le_refl _⟩ rfl rfl (Nat.le_of_ble_eq_true rfl) dX10_starved_32 h (fun r7 D7 h => ?_)
    refine go_iload_n 2 dX10_starved_35 rfl rfl ?_
    refine go_iload_n 3 dX10_starved_36 rfl rfl ?_
    refine go_vI (M := MX10_starvesIn) [vI v1, vI r7, vI v2, vI v3] [vR E 107] mv_X10_356 (hL.1 107 _ rfl) rfl (by decide) ⟨Nat.le_of_ble_eq_true rfl, Nat.le_of_ble_eq_true rfl⟩ ⟨Nat.le_refl _, Nat.le_refl _⟩ rfl rfl (Nat.le_of_ble_eq_true rfl) dX10_starved_37 h (fun r9 D9 h => ?_)
    refine go_vIp (M := MX10_gives) [vI r9] [] mv_X10_204 (hL.1 107 _ rfl) rfl (by decide) ⟨Nat.le_of_ble_eq_true rfl, Nat.le_of_ble_eq_true rfl⟩ ⟨Nat.le_refl _, Nat.le_refl _⟩ rfl rfl (Nat.le_of_ble_eq_true rfl) dX10_starved_40 (p_X10_gives hL) ?_
    exact go_ireturn (Nat.le_refl _) (Nat.le_refl _) rfl dX10_starved_43 h
  · have h := h.2 c5
    refine go_aload_n 0 dX10_starved_18 rfl rfl ?_
    refine go_iload 4 dX10_starved_19 rfl ?_
    refine go_vIp (M := MX10_refuse) [vI r3] [] mv_X10_194 (hL.1 107 _ rfl) rfl (by decide) ⟨Nat.le_of_ble_eq_true rfl, Nat.le_of_ble_eq_true rfl⟩ ⟨Nat.le_refl _, Nat.le_refl _⟩ rfl rfl (Nat.le_of_ble_eq_true rfl) dX10_starved_21 (p_X10_refuse hL s4) ?_
    refine go_goto 43 dX10_starved_24 (by decide) ?_
    exact go_ireturn (Nat.le_refl _) (Nat.le_refl _) rfl dX10_starved_43 h
theorem s_X10_luck {l : Launch} {E : Ev} {Q : Int → Sh → Dm → Prop} {G : Sh} {D : Dm} (hL : Lay G) {v1 v2 v3 v4 v5 : Int}  (h : ((-2147483648 ≤ v1 ∧ v1 < 2147483648)) ∧ ((¬ ((0 ≤ v1) ∧ (v1 < (D 108 2))) → C0 l E MX10_wrongYears 0 [vR E 107, vI 0, vI v2, vI v3] G D (fun r5 D5 => ((-2147483648 ≤ r5 ∧ r5 < 2147483648)) ∧ ((r5 ≤ 0 → C0 l E MX10_held 0 [vR E 107, vI v1] G D5 (fun r9 D9 => C0 l E MX10_starvesIn 0 [vR E 107, vI v1, vI r9, vI v2, vI v3] G D9 (fun r11 D11 => KX10_luck l E Q 83 [(0, vR E 107), (1, vI v1), (2, vI v2), (3, vI v3), (4, vI v4), (5, vI v5), (6, vI r5), (7, vI r11), (8, vI v4), (9, vI 0), (10, vI 0)] G D11))) ∧ (0 < r5 → Q (-1) G (upd2 D5 107 1 r5))))) ∧ (((0 ≤ v1) ∧ (v1 < (D 108 2))) → ((-2147483648 ≤ v4 ∧ v4 < 2147483648)) ∧ ((v4 < 0 → C0 l E MX10_wrongYears 0 [vR E 107, vI 0, vI v2, vI v3] G D (fun r18 D18 => ((-2147483648 ≤ r18 ∧ r18 < 2147483648)) ∧ ((r18 ≤ 0 → C0 l E MX10_held 0 [vR E 107, vI v1] G D18 (fun r22 D22 => C0 l E MX10_starvesIn 0 [vR E 107, vI v1, vI r22, vI v2, vI v3] G D22 (fun r24 D24 => KX10_luck l E Q 83 [(0, vR E 107), (1, vI v1), (2, vI v2), (3, vI v3), (4, vI v4), (5, vI v5), (6, vI r18), (7, vI r24), (8, vI v4), (9, vI 0), (10, vI 0)] G D24))) ∧ (0 < r18 → Q (-1) G (upd2 D18 107 1 r18))))) ∧ (0 ≤ v4 → ((9999 < v4 → C0 l E MX10_wrongYears 0 [vR E 107, vI 0, vI v2, vI v3] G D (fun r31 D31 => ((-2147483648 ≤ r31 ∧ r31 < 2147483648)) ∧ ((r31 ≤ 0 → C0 l E MX10_held 0 [vR E 107, vI v1] G D31 (fun r35 D35 => C0 l E MX10_starvesIn 0 [vR E 107, vI v1, vI r35, vI v2, vI v3] G D35 (fun r37 D37 => KX10_luck l E Q 83 [(0, vR E 107), (1, vI v1), (2, vI v2), (3, vI v3), (4, vI v4), (5, vI v5), (6, vI r31), (7, vI r37), (8, vI v4), (9, vI 0), (10, vI 0)] G D37))) ∧ (0 < r31 → Q (-1) G (upd2 D31 107 1 r31))))) ∧ (v4 ≤ 9999 → ((-2147483648 ≤ v5 ∧ v5 < 2147483648)) ∧ ((v5 < 1 → C0 l E MX10_wrongYears 0 [vR E 107, vI 0, vI v2, vI v3] G D (fun r44 D44 => ((-2147483648 ≤ r44 ∧ r44 < 2147483648)) ∧ ((r44 ≤ 0 → C0 l E MX10_held 0 [vR E 107, vI v1] G D44 (fun r48 D48 => C0 l E MX10_starvesIn 0 [vR E 107, vI v1, vI r48, vI v2, vI v3] G D48 (fun r50 D50 => KX10_luck l E Q 83 [(0, vR E 107), (1, vI v1), (2, vI v2), (3, vI v3), (4, vI v4), (5, vI v5), (6, vI r44), (7, vI r50), (8, vI v4), (9, vI 0), (10, vI 0)] G D50))) ∧ (0 < r44 → Q (-1) G (upd2 D44 107 1 r44))))) ∧ (1 ≤ v5 → ((100 < v5 → C0 l E MX10_wrongYears 0 [vR E 107, vI 0, vI v2, vI v3] G D (fun r57 D57 => ((-2147483648 ≤ r57 ∧ r57 < 2147483648)) ∧ ((r57 ≤ 0 → C0 l E MX10_held 0 [vR E 107, vI v1] G D57 (fun r61 D61 => C0 l E MX10_starvesIn 0 [vR E 107, vI v1, vI r61, vI v2, vI v3] G D61 (fun r63 D63 => KX10_luck l E Q 83 [(0, vR E 107), (1, vI v1), (2, vI v2), (3, vI v3), (4, vI v4), (5, vI v5), (6, vI r57), (7, vI r63), (8, vI v4), (9, vI 0), (10, vI 0)] G D63))) ∧ (0 < r57 → Q (-1) G (upd2 D57 107 1 r57))))) ∧ (v5 ≤ 100 → C0 l E MX10_wrongYears 0 [vR E 107, vI 1, vI v2, vI v3] G D (fun r68 D68 => ((-2147483648 ≤ r68 ∧ r68 < 2147483648)) ∧ ((r68 ≤ 0 → C0 l E MX10_held 0 [vR E 107, vI v1] G D68 (fun r72 D72 => C0 l E MX10_starvesIn 0 [vR E 107, vI v1, vI r72, vI v2, vI v3] G D72 (fun r74 D74 => KX10_luck l E Q 83 [(0, vR E 107), (1, vI v1), (2, vI v2), (3, vI v3), (4, vI v4), (5, vI v5), (6, vI r68), (7, vI r74), (8, vI v4), (9, vI 0), (10, vI 0)] G D74))) ∧ (0 < r68 → Q (-1) G (upd2 D68 107 1 r68))))))))))))))) : Ct l E MX10_luck 0 0 0 [vR E 107, vI v1, vI v2, vI v3, vI v4, vI v5] G D Q := by
  refine Ct.of (by decide) (Nat.le_of_ble_eq_true rfl) ?_
  show KX10_luck l E Q 0 [(0, vR E 107), (1, vI v1), (2, vI v2), (3, vI v3), (4, vI v4), (5, vI v5)] G D
  obtain ⟨s1, h⟩ := h
  refine go_aload_n 0 dX10_luck_0 rfl rfl ?_
  refine go_aload_n 0 dX10_luck_1 rfl rfl ?_
  refine go_iload_n 1 dX10_luck_2 rfl rfl ?_
  refine go_vIp (M := MX10_isFamily) [vI v1] [vR E 107] mv_X10_223 (hL.1 107 _ rfl) rfl (by decide) ⟨Nat.le_of_ble_eq_true rfl, Nat.le_of_ble_eq_true rfl⟩ ⟨Nat.le_refl _, Nat.le_refl _⟩ rfl rfl (Nat.le_of_ble_eq_true rfl) dX10_luck_3 (p_X10_isFamily hL s1) ?_
  refine go_ifb_eq 39 dX10_luck_6 (by decide) (fun c3 => ?_) (fun c3 => ?_)
  · have h := h.1 c3
    refine go_iconst dX10_luck_39 ?_
    refine go_iload_n 2 dX10_luck_40 rfl rfl ?_
    refine go_iload_n 3 dX10_luck_41 rfl rfl ?_
    refine go_vI (M := MX10_wrongYears) [vI 0, vI v2, vI v3] [] mv_X10_352 (hL.1 107 _ rfl) rfl (by decide) ⟨Nat.le_of_ble_eq_true rfl, Nat.le_of_ble_eq_true rfl⟩ ⟨Nat.le_refl _, Nat.le_refl _⟩ rfl rfl (Nat.le_of_ble_eq_true rfl) dX10_luck_42 h (fun r5 D5 h => ?_)
    obtain ⟨s6, h⟩ := h
    refine go_istore [1, 2, 3, 4, 5, 6, 0] (L' := [(0, vR E 107), (1, vI v1), (2, vI v2), (3, vI v3), (4, vI v4), (5, vI v5), (6, vI r5)]) dX10_luck_45 (by decide) rfl ?_
    refine go_iload 6 dX10_luck_47 rfl ?_
    refine go_if_le 59 dX10_luck_49 (by decide) s6 (fun c7 => ?_) (fun c7 => ?_)
    · have h := h.1 c7
      refine go_aload_n 0 dX10_luck_59 rfl rfl ?_
      refine go_iload_n 1 dX10_luck_60 rfl rfl ?_
      refine go_aload_n 0 dX10_luck_61 rfl rfl ?_
      refine go_iload_n 1 dX10_luck_62 rfl rfl ?_
      refine go_vI (M := MX10_held) [vI v1] [vI v1, vR E 107] mv_X10_229 (hL.1 107 _ rfl) rfl (by decide) ⟨Nat.le_of_ble_eq_true rfl, Nat.le_of_ble_eq_true rfl⟩ ⟨Nat.le_refl _, Nat.le_refl _⟩ rfl rfl (Nat.le_of_ble_eq_true rfl) dX10_luck_63 h (fun r9 D9 h => ?_)
      refine go_iload_n 2 dX10_luck_66 rfl rfl ?_
      refine go_iload_n 3 dX10_luck_67 rfl rfl ?_
      refine go_vI (M := MX10_starvesIn) [vI v1, vI r9, vI v2, vI v3] [] mv_X10_356 (hL.1 107 _ rfl) rfl (by decide) ⟨Nat.le_of_ble_eq_true rfl, Nat.le_of_ble_eq_true rfl⟩ ⟨Nat.le_refl _, Nat.le_refl _⟩ rfl rfl (Nat.le_of_ble_eq_true rfl) dX10_luck_68 h (fun r11 D11 h => ?_)
      refine go_istore [1, 2, 3, 4, 5, 6, 7, 0] (L' := [(0, vR E 107), (1, vI v1), (2, vI v2), (3, vI v3), (4, vI v4), (5, vI v5), (6, vI r5), (7, vI r11)]) dX10_luck_71 (by decide) rfl ?_
      refine go_iload 4 dX10_luck_73 rfl ?_
      refine go_istore [1, 2, 3, 4, 5, 6, 7, 8, 0] (L' := [(0, vR E 107), (1, vI v1), (2, vI v2), (3, vI v3), (4, vI v4), (5, vI v5), (6, vI r5), (7, vI r11), (8, vI v4)]) dX10_luck_75 (by decide) rfl ?_
      refine go_iconst dX10_luck_77 ?_
      refine go_istore [1, 2, 3, 4, 5, 6, 7, 8, 9, 0] (L' := [(0, vR E 107), (1, vI v1), (2, vI v2), (3, vI v3), (4, vI v4), (5, vI v5), (6, vI r5), (7, vI r11), (8, vI v4), (9, vI 0)]) dX10_luck_78 (by decide) rfl ?_
      refine go_iconst dX10_luck_80 ?_
      refine go_istore [1, 2, 3, 4, 5, 6, 7, 8, 9, 10, 0] (L' := [(0, vR E 107), (1, vI v1), (2, vI v2), (3, vI v3), (4, vI v4), (5, vI v5), (6, vI r5), (7, vI r11), (8, vI v4), (9, vI 0), (10, vI 0)]) dX10_luck_81 (by decide) rfl ?_
      exact h
    · have h := h.2 c7
      refine go_aload_n 0 dX10_luck_52 rfl rfl ?_
      refine go_iload 6 dX10_luck_53 rfl ?_
      refine go_vIp (M := MX10_refuse) [vI r5] [] mv_X10_194 (hL.1 107 _ rfl) rfl (by decide) ⟨Nat.le_of_ble_eq_true rfl, Nat.le_of_ble_eq_true rfl⟩ ⟨Nat.le_refl _, Nat.le_refl _⟩ rfl rfl (Nat.le_of_ble_eq_true rfl) dX10_luck_55 (p_X10_refuse hL s6) ?_
      exact go_ireturn (Nat.le_refl _) (Nat.le_refl _) rfl dX10_luck_58 h
  · have h := h.2 c3
    obtain ⟨s15, h⟩ := h
    refine go_iload 4 dX10_luck_9 rfl ?_
    refine go_if_lt 39 dX10_luck_11 (by decide) s15 (fun c16 => ?_) (fun c16 => ?_)
    · have h := h.1 c16
      refine go_iconst dX10_luck_39 ?_
      refine go_iload_n 2 dX10_luck_40 rfl rfl ?_
      refine go_iload_n 3 dX10_luck_41 rfl rfl ?_
      refine go_vI (M := MX10_wrongYears) [vI 0, vI v2, vI v3] [] mv_X10_352 (hL.1 107 _ rfl) rfl (by decide) ⟨Nat.le_of_ble_eq_true rfl, Nat.le_of_ble_eq_true rfl⟩ ⟨Nat.le_refl _, Nat.le_refl _⟩ rfl rfl (Nat.le_of_ble_eq_true rfl) dX10_luck_42 h (fun r18 D18 h => ?_)
      obtain ⟨s19, h⟩ := h
      refine go_istore [1, 2, 3, 4, 5, 6, 0] (L' := [(0, vR E 107), (1, vI v1), (2, vI v2), (3, vI v3), (4, vI v4), (5, vI v5), (6, vI r18)]) dX10_luck_45 (by decide) rfl ?_
      refine go_iload 6 dX10_luck_47 rfl ?_
      refine go_if_le 59 dX10_luck_49 (by decide) s19 (fun c20 => ?_) (fun c20 => ?_)
      · have h := h.1 c20
        refine go_aload_n 0 dX10_luck_59 rfl rfl ?_
        refine go_iload_n 1 dX10_luck_60 rfl rfl ?_
        refine go_aload_n 0 dX10_luck_61 rfl rfl ?_
        refine go_iload_n 1 dX10_luck_62 rfl rfl ?_
        refine go_vI (M := MX10_held) [vI v1] [vI v1, vR E 107] mv_X10_229 (hL.1 107 _ rfl) rfl (by decide) ⟨Nat.le_of_ble_eq_true rfl, Nat.le_of_ble_eq_true rfl⟩ ⟨Nat.le_refl _, Nat.le_refl _⟩ rfl rfl (Nat.le_of_ble_eq_true rfl) dX10_luck_63 h (fun r22 D22 h => ?_)
        refine go_iload_n 2 dX10_luck_66 rfl rfl ?_
        refine go_iload_n 3 dX10_luck_67 rfl rfl ?_
        refine go_vI (M := MX10_starvesIn) [vI v1, vI r22, vI v2, vI v3] [] mv_X10_356 (hL.1 107 _ rfl) rfl (by decide) ⟨Nat.le_of_ble_eq_true rfl, Nat.le_of_ble_eq_true rfl⟩ ⟨Nat.le_refl _, Nat.le_refl _⟩ rfl rfl (Nat.le_of_ble_eq_true rfl) dX10_luck_68 h (fun r24 D24 h => ?_)
        refine go_istore [1, 2, 3, 4, 5, 6, 7, 0] (L' := [(0, vR E 107), (1, vI v1), (2, vI v2), (3, vI v3), (4, vI v4), (5, vI v5), (6, vI r18), (7, vI r24)]) dX10_luck_71 (by decide) rfl ?_
        refine go_iload 4 dX10_luck_73 rfl ?_
        refine go_istore [1, 2, 3, 4, 5, 6, 7, 8, 0] (L' := [(0, vR E 107), (1, vI v1), (2, vI v2), (3, vI v3), (4, vI v4), (5, vI v5), (6, vI r18), (7, vI r24), (8, vI v4)]) dX10_luck_75 (by decide) rfl ?_
        refine go_iconst dX10_luck_77 ?_
        refine go_istore [1, 2, 3, 4, 5, 6, 7, 8, 9, 0] (L' := [(0, vR E 107), (1, vI v1), (2, vI v2), (3, vI v3), (4, vI v4), (5, vI v5), (6, vI r18), (7, vI r24), (8, vI v4), (9, vI 0)]) dX10_luck_78 (by decide) rfl ?_
        refine go_iconst dX10_luck_80 ?_
        refine go_istore [1, 2, 3, 4, 5, 6, 7, 8, 9, 10, 0] (L' := [(0, vR E 107), (1, vI v1), (2, vI v2), (3, vI v3), (4, vI v4), (5, vI v5), (6, vI r18), (7, vI r24), (8, vI v4), (9, vI 0), (10, vI 0)]) dX10_luck_81 (by decide) rfl ?_
        exact h
      · have h := h.2 c20
        refine go_aload_n 0 dX10_luck_52 rfl rfl ?_
        refine go_iload 6 dX10_luck_53 rfl ?_
        refine go_vIp (M := MX10_refuse) [vI r18] [] mv_X10_194 (hL.1 107 _ rfl) rfl (by decide) ⟨Nat.le_of_ble_eq_true rfl, Nat.le_of_ble_eq_true rfl⟩ ⟨Nat.le_refl _, Nat.le_refl _⟩ rfl rfl (Nat.le_of_ble_eq_true rfl) dX10_luck_55 (p_X10_refuse hL s19) ?_
        exact go_ireturn (Nat.le_refl _) (Nat.le_refl _) rfl dX10_luck_58 h
    · have h := h.2 c16
      refine go_iload 4 dX10_luck_14 rfl ?_
      refine go_sipush dX10_luck_16 (by decide) ?_
      refine go_icmp_gt 39 dX10_luck_19 (by decide) s15 (by decide) (fun c29 => ?_) (fun c29 => ?_)
      · have h := h.1 c29
        refine go_iconst dX10_luck_39 ?_
        refine go_iload_n 2 dX10_luck_40 rfl rfl ?_
        refine go_iload_n 3 dX10_luck_41 rfl rfl ?_
        refine go_vI (M := MX10_wrongYears) [vI 0, vI v2, vI v3] [] mv_X10_352 (hL.1 107 _ rfl) rfl (by decide) ⟨Nat.le_of_ble_eq_true rfl, Nat.le_of_ble_eq_true rfl⟩ ⟨Nat.le_refl _, Nat.le_refl _⟩ rfl rfl (Nat.le_of_ble_eq_true rfl) dX10_luck_42 h (fun r31 D31 h => ?_)
        obtain ⟨s32, h⟩ := h
        refine go_istore [1, 2, 3, 4, 5, 6, 0] (L' := [(0, vR E 107), (1, vI v1), (2, vI v2), (3, vI v3), (4, vI v4), (5, vI v5), (6, vI r31)]) dX10_luck_45 (by decide) rfl ?_
        refine go_iload 6 dX10_luck_47 rfl ?_
        refine go_if_le 59 dX10_luck_49 (by decide) s32 (fun c33 => ?_) (fun c33 => ?_)
        · have h := h.1 c33
          refine go_aload_n 0 dX10_luck_59 rfl rfl ?_
          refine go_iload_n 1 dX10_luck_60 rfl rfl ?_
          refine go_aload_n 0 dX10_luck_61 rfl rfl ?_
          refine go_iload_n 1 dX10_luck_62 rfl rfl ?_
          refine go_vI (M := MX10_held) [vI v1] [vI v1, vR E 107] mv_X10_229 (hL.1 107 _ rfl) rfl (by decide) ⟨Nat.le_of_ble_eq_true rfl, Nat.le_of_ble_eq_true rfl⟩ ⟨Nat.le_refl _, Nat.le_refl _⟩ rfl rfl (Nat.le_of_ble_eq_true rfl) dX10_luck_63 h (fun r35 D35 h => ?_)
          refine go_iload_n 2 dX10_luck_66 rfl rfl ?_
          refine go_iload_n 3 dX10_luck_67 rfl rfl ?_
          refine go_vI (M := MX10_starvesIn) [vI v1, vI r35, vI v2, vI v3] [] mv_X10_356 (hL.1 107 _ rfl) rfl (by decide) ⟨Nat.le_of_ble_eq_true rfl, Nat.le_of_ble_eq_true rfl⟩ ⟨Nat.le_refl _, Nat.le_refl _⟩ rfl rfl (Nat.le_of_ble_eq_true rfl) dX10_luck_68 h (fun r37 D37 h => ?_)
          refine go_istore [1, 2, 3, 4, 5, 6, 7, 0] (L' := [(0, vR E 107), (1, vI v1), (2, vI v2), (3, vI v3), (4, vI v4), (5, vI v5), (6, vI r31), (7, vI r37)]) dX10_luck_71 (by decide) rfl ?_
          refine go_iload 4 dX10_luck_73 rfl ?_
          refine go_istore [1, 2, 3, 4, 5, 6, 7, 8, 0] (L' := [(0, vR E 107), (1, vI v1), (2, vI v2), (3, vI v3), (4, vI v4), (5, vI v5), (6, vI r31), (7, vI r37), (8, vI v4)]) dX10_luck_75 (by decide) rfl ?_
          refine go_iconst dX10_luck_77 ?_
          refine go_istore [1, 2, 3, 4, 5, 6, 7, 8, 9, 0] (L' := [(0, vR E 107), (1, vI v1), (2, vI v2), (3, vI v3), (4, vI v4), (5, vI v5), (6, vI r31), (7, vI r37), (8, vI v4), (9, vI 0)]) dX10_luck_78 (by decide) rfl ?_
          refine go_iconst dX10_luck_80 ?_
          refine go_istore [1, 2, 3, 4, 5, 6, 7, 8, 9, 10, 0] (L' := [(0, vR E 107), (1, vI v1), (2, vI v2), (3, vI v3), (4, vI v4), (5, vI v5), (6, vI r31), (7, vI r37), (8, vI v4), (9, vI 0), (10, vI 0)]) dX10_luck_81 (by decide) rfl ?_
          exact h
        · have h := h.2 c33
          refine go_aload_n 0 dX10_luck_52 rfl rfl ?_
          refine go_iload 6 dX10_luck_53 rfl ?_
          refine go_vIp (M := MX10_refuse) [vI r31] [] mv_X10_194 (hL.1 107 _ rfl) rfl (by decide) ⟨Nat.le_of_ble_eq_true rfl, Nat.le_of_ble_eq_true rfl⟩ ⟨Nat.le_refl _, Nat.le_refl _⟩ rfl rfl (Nat.le_of_ble_eq_true rfl) dX10_luck_55 (p_X10_refuse hL s32) ?_
          exact go_ireturn (Nat.le_refl _) (Nat.le_refl _) rfl dX10_luck_58 h
      · have h := h.2 c29
        obtain ⟨s41, h⟩ := h
        refine go_iload 5 dX10_luck_22 rfl ?_
        refine go_iconst dX10_luck_24 ?_
        refine go_icmp_lt 39 dX10_luck_25 (by decide) s41 (by decide) (fun c42 => ?_) (fun c42 => ?_)
        · have h := h.1 c42
          refine go_iconst dX10_luck_39 ?_
          refine go_iload_n 2 dX10_luck_40 rfl rfl ?_
          refine go_iload_n 3 dX10_luck_41 rfl rfl ?_
          refine go_vI (M := MX10_wrongYears) [vI 0, vI v2, vI v3] [] mv_X10_352 (hL.1 107 _ rfl) rfl (by decide) ⟨Nat.le_of_ble_eq_true rfl, Nat.le_of_ble_eq_true rfl⟩ ⟨Nat.le_refl _, Nat.le_refl _⟩ rfl rfl (Nat.le_of_ble_eq_true rfl) dX10_luck_42 h (fun r44 D44 h => ?_)
          obtain ⟨s45, h⟩ := h
          refine go_istore [1, 2, 3, 4, 5, 6, 0] (L' := [(0, vR E 107), (1, vI v1), (2, vI v2), (3, vI v3), (4, vI v4), (5, vI v5), (6, vI r44)]) dX10_luck_45 (by decide) rfl ?_
          refine go_iload 6 dX10_luck_47 rfl ?_
          refine go_if_le 59 dX10_luck_49 (by decide) s45 (fun c46 => ?_) (fun c46 => ?_)
          · have h := h.1 c46
            refine go_aload_n 0 dX10_luck_59 rfl rfl ?_
            refine go_iload_n 1 dX10_luck_60 rfl rfl ?_
            refine go_aload_n 0 dX10_luck_61 rfl rfl ?_
            refine go_iload_n 1 dX10_luck_62 rfl rfl ?_
            refine go_vI (M := MX10_held) [vI v1] [vI v1, vR E 107] mv_X10_229 (hL.1 107 _ rfl) rfl (by decide) ⟨Nat.le_of_ble_eq_true rfl, Nat.le_of_ble_eq_true rfl⟩ ⟨Nat.le_refl _, Nat.le_refl _⟩ rfl rfl (Nat.le_of_ble_eq_true rfl) dX10_luck_63 h (fun r48 D48 h => ?_)
            refine go_iload_n 2 dX10_luck_66 rfl rfl ?_
            refine go_iload_n 3 dX10_luck_67 rfl rfl ?_
            refine go_vI (M := MX10_starvesIn) [vI v1, vI r48, vI v2, vI v3] [] mv_X10_356 (hL.1 107 _ rfl) rfl (by decide) ⟨Nat.le_of_ble_eq_true rfl, Nat.le_of_ble_eq_true rfl⟩ ⟨Nat.le_refl _, Nat.le_refl _⟩ rfl rfl (Nat.le_of_ble_eq_true rfl) dX10_luck_68 h (fun r50 D50 h => ?_)
            refine go_istore [1, 2, 3, 4, 5, 6, 7, 0] (L' := [(0, vR E 107), (1, vI v1), (2, vI v2), (3, vI v3), (4, vI v4), (5, vI v5), (6, vI r44), (7, vI r50)]) dX10_luck_71 (by decide) rfl ?_
            refine go_iload 4 dX10_luck_73 rfl ?_
            refine go_istore [1, 2, 3, 4, 5, 6, 7, 8, 0] (L' := [(0, vR E 107), (1, vI v1), (2, vI v2), (3, vI v3), (4, vI v4), (5, vI v5), (6, vI r44), (7, vI r50), (8, vI v4)]) dX10_luck_75 (by decide) rfl ?_
            refine go_iconst dX10_luck_77 ?_
            refine go_istore [1, 2, 3, 4, 5, 6, 7, 8, 9, 0] (L' := [(0, vR E 107), (1, vI v1), (2, vI v2), (3, vI v3), (4, vI v4), (5, vI v5), (6, vI r44), (7, vI r50), (8, vI v4), (9, vI 0)]) dX10_luck_78 (by decide) rfl ?_
            refine go_iconst dX10_luck_80 ?_
            refine go_istore [1, 2, 3, 4, 5, 6, 7, 8, 9, 10, 0] (L' := [(0, vR E 107), (1, vI v1), (2, vI v2), (3, vI v3), (4, vI v4), (5, vI v5), (6, vI r44), (7, vI r50), (8, vI v4), (9, vI 0), (10, vI 0)]) dX10_luck_81 (by decide) rfl ?_
            exact h
          · have h := h.2 c46
            refine go_aload_n 0 dX10_luck_52 rfl rfl ?_
            refine go_iload 6 dX10_luck_53 rfl ?_
            refine go_vIp (M := MX10_refuse) [vI r44] [] mv_X10_194 (hL.1 107 _ rfl) rfl (by decide) ⟨Nat.le_of_ble_eq_true rfl, Nat.le_of_ble_eq_true rfl⟩ ⟨Nat.le_refl _, Nat.le_refl _⟩ rfl rfl (Nat.le_of_ble_eq_true rfl) dX10_luck_55 (p_X10_refuse hL s45) ?_
            exact go_ireturn (Nat.le_refl _) (Nat.le_refl _) rfl dX10_luck_58 h
        · have h := h.2 c42
          refine go_iload 5 dX10_luck_28 rfl ?_
          refine go_bipush dX10_luck_30 (by decide) ?_
          refine go_icmp_gt 39 dX10_luck_32 (by decide) s41 (by decide) (fun c55 => ?_) (fun c55 => ?_)
          · have h := h.1 c55
            refine go_iconst dX10_luck_39 ?_
            refine go_iload_n 2 dX10_luck_40 rfl rfl ?_
            refine go_iload_n 3 dX10_luck_41 rfl rfl ?_
            refine go_vI (M := MX10_wrongYears) [vI 0, vI v2, vI v3] [] mv_X10_352 (hL.1 107 _ rfl) rfl (by decide) ⟨Nat.le_of_ble_eq_true rfl, Nat.le_of_ble_eq_true rfl⟩ ⟨Nat.le_refl _, Nat.le_refl _⟩ rfl rfl (Nat.le_of_ble_eq_true rfl) dX10_luck_42 h (fun r57 D57 h => ?_)
            obtain ⟨s58, h⟩ := h
            refine go_istore [1, 2, 3, 4, 5, 6, 0] (L' := [(0, vR E 107), (1, vI v1), (2, vI v2), (3, vI v3), (4, vI v4), (5, vI v5), (6, vI r57)]) dX10_luck_45 (by decide) rfl ?_
            refine go_iload 6 dX10_luck_47 rfl ?_
            refine go_if_le 59 dX10_luck_49 (by decide) s58 (fun c59 => ?_) (fun c59 => ?_)
            · have h := h.1 c59
              refine go_aload_n 0 dX10_luck_59 rfl rfl ?_
              refine go_iload_n 1 dX10_luck_60 rfl rfl ?_
              refine go_aload_n 0 dX10_luck_61 rfl rfl ?_
              refine go_iload_n 1 dX10_luck_62 rfl rfl ?_
              refine go_vI (M := MX10_held) [vI v1] [vI v1, vR E 107] mv_X10_229 (hL.1 107 _ rfl) rfl (by decide) ⟨Nat.le_of_ble_eq_true rfl, Nat.le_of_ble_eq_true rfl⟩ ⟨Nat.le_refl _, Nat.le_refl _⟩ rfl rfl (Nat.le_of_ble_eq_true rfl) dX10_luck_63 h (fun r61 D61 h => ?_)
              refine go_iload_n 2 dX10_luck_66 rfl rfl ?_
              refine go_iload_n 3 dX10_luck_67 rfl rfl ?_
              refine go_vI (M := MX10_starvesIn) [vI v1, vI r61, vI v2, vI v3] [] mv_X10_356 (hL.1 107 _ rfl) rfl (by decide) ⟨Nat.le_of_ble_eq_true rfl, Nat.le_of_ble_eq_true rfl⟩ ⟨Nat.le_refl _, Nat.le_refl _⟩ rfl rfl (Nat.le_of_ble_eq_true rfl) dX10_luck_68 h (fun r63 D63 h => ?_)
              refine go_istore [1, 2, 3, 4, 5, 6, 7, 0] (L' := [(0, vR E 107), (1, vI v1), (2, vI v2), (3, vI v3), (4, vI v4), (5, vI v5), (6, vI r57), (7, vI r63)]) dX10_luck_71 (by decide) rfl ?_
              refine go_iload 4 dX10_luck_73 rfl ?_
              refine go_istore [1, 2, 3, 4, 5, 6, 7, 8, 0] (L' := [(0, vR E 107), (1, vI v1), (2, vI v2), (3, vI v3), (4, vI v4), (5, vI v5), (6, vI r57), (7, vI r63), (8, vI v4)]) dX10_luck_75 (by decide) rfl ?_
              refine go_iconst dX10_luck_77 ?_
              refine go_istore [1, 2, 3, 4, 5, 6, 7, 8, 9, 0] (L' := [(0, vR E 107), (1, vI v1), (2, vI v2), (3, vI v3), (4, vI v4), (5, vI v5), (6, vI r57), (7, vI r63), (8, vI v4), (9, vI 0)]) dX10_luck_78 (by decide) rfl ?_
              refine go_iconst dX10_luck_80 ?_
              refine go_istore [1, 2, 3, 4, 5, 6, 7, 8, 9, 10, 0] (L' := [(0, vR E 107), (1, vI v1), (2, vI v2), (3, vI v3), (4, vI v4), (5, vI v5), (6, vI r57), (7, vI r63), (8, vI v4), (9, vI 0), (10, vI 0)]) dX10_luck_81 (by decide) rfl ?_
              exact h
            · have h := h.2 c59
              refine go_aload_n 0 dX10_luck_52 rfl rfl ?_
              refine go_iload 6 dX10_luck_53 rfl ?_
              refine go_vIp (M := MX10_refuse) [vI r57] [] mv_X10_194 (hL.1 107 _ rfl) rfl (by decide) ⟨Nat.le_of_ble_eq_true rfl, Nat.le_of_ble_eq_true rfl⟩ ⟨Nat.le_refl _, Nat.le_refl _⟩ rfl rfl (Nat.le_of_ble_eq_true rfl) dX10_luck_55 (p_X10_refuse hL s58) ?_
              exact go_ireturn (Nat.le_refl _) (Nat.le_refl _) rfl dX10_luck_58 h
          · have h := h.2 c55
            refine go_iconst dX10_luck_35 ?_
            refine go_goto 40 dX10_luck_36 (by decide) ?_
            refine go_iload_n 2 dX10_luck_40 rfl rfl ?_
            refine go_iload_n 3 dX10_luck_41 rfl rfl ?_
            refine go_vI (M := MX10_wrongYears) [vI 1, vI v2, vI v3] [] mv_X10_352 (hL.1 107 _ rfl) rfl (by decide) ⟨Nat.le_of_ble_eq_true rfl, Nat.le_of_ble_eq_true rfl⟩ ⟨Nat.le_refl _, Nat.le_refl _⟩ rfl rfl (Nat.le_of_ble_eq_true rfl) dX10_luck_42 h (fun r68 D68 h => ?_)
            obtain ⟨s69, h⟩ := h
            refine go_istore [1, 2, 3, 4, 5, 6, 0] (L' := [(0, vR E 107), (1, vI v1), (2, vI v2), (3, vI v3), (4, vI v4), (5, vI v5), (6, vI r68)]) dX10_luck_45 (by decide) rfl ?_
            refine go_iload 6 dX10_luck_47 rfl ?_
            refine go_if_le 59 dX10_luck_49 (by decide) s69 (fun c70 => ?_) (fun c70 => ?_)
            · have h := h.1 c70
              refine go_aload_n 0 dX10_luck_59 rfl rfl ?_
              refine go_iload_n 1 dX10_luck_60 rfl rfl ?_
              refine go_aload_n 0 dX10_luck_61 rfl rfl ?_
              refine go_iload_n 1 dX10_luck_62 rfl rfl ?_
              refine go_vI (M := MX10_held) [vI v1] [vI v1, vR E 107] mv_X10_229 (hL.1 107 _ rfl) rfl (by decide) ⟨Nat.le_of_ble_eq_true rfl, Nat.le_of_ble_eq_true rfl⟩ ⟨Nat.le_refl _, Nat.le_refl _⟩ rfl rfl (Nat.le_of_ble_eq_true rfl) dX10_luck_63 h (fun r72 D72 h => ?_)
              refine go_iload_n 2 dX10_luck_66 rfl rfl ?_
              refine go_iload_n 3 dX10_luck_67 rfl rfl ?_
              refine go_vI (M := MX10_starvesIn) [vI v1, vI r72, vI v2, vI v3] [] mv_X10_356 (hL.1 107 _ rfl) rfl (by decide) ⟨Nat.le_of_ble_eq_true rfl, Nat.le_of_ble_eq_true rfl⟩ ⟨Nat.le_refl _, Nat.le_refl _⟩ rfl rfl (Nat.le_of_ble_eq_true rfl) dX10_luck_68 h (fun r74 D74 h => ?_)
              refine go_istore [1, 2, 3, 4, 5, 6, 7, 0] (L' := [(0, vR E 107), (1, vI v1), (2, vI v2), (3, vI v3), (4, vI v4), (5, vI v5), (6, vI r68), (7, vI r74)]) dX10_luck_71 (by decide) rfl ?_
              refine go_iload 4 dX10_luck_73 rfl ?_
              refine go_istore [1, 2, 3, 4, 5, 6, 7, 8, 0] (L' := [(0, vR E 107), (1, vI v1), (2, vI v2), (3, vI v3), (4, vI v4), (5, vI v5), (6, vI r68), (7, vI r74), (8, vI v4)]) dX10_luck_75 (by decide) rfl ?_
              refine go_iconst dX10_luck_77 ?_
              refine go_istore [1, 2, 3, 4, 5, 6, 7, 8, 9, 0] (L' := [(0, vR E 107), (1, vI v1), (2, vI v2), (3, vI v3), (4, vI v4), (5, vI v5), (6, vI r68), (7, vI r74), (8, vI v4), (9, vI 0)]) dX10_luck_78 (by decide) rfl ?_
              refine go_iconst dX10_luck_80 ?_
              refine go_istore [1, 2, 3, 4, 5, 6, 7, 8, 9, 10, 0] (L' := [(0, vR E 107), (1, vI v1), (2, vI v2), (3, vI v3), (4, vI v4), (5, vI v5), (6, vI r68), (7, vI r74), (8, vI v4), (9, vI 0), (10, vI 0)]) dX10_luck_81 (by decide) rfl ?_
              exact h
            · have h := h.2 c70
              refine go_aload_n 0 dX10_luck_52 rfl rfl ?_
              refine go_iload 6 dX10_luck_53 rfl ?_
              refine go_vIp (M := MX10_refuse) [vI r68] [] mv_X10_194 (hL.1 107 _ rfl) rfl (by decide) ⟨Nat.le_of_ble_eq_true rfl, Nat.le_of_ble_eq_true rfl⟩ ⟨Nat.le_refl _, Nat.le_refl _⟩ rfl rfl (Nat.le_of_ble_eq_true rfl) dX10_luck_55 (p_X10_refuse hL s69) ?_
              exact go_ireturn (Nat.le_refl _) (Nat.le_refl _) rfl dX10_luck_58 h
theorem s_X10_luck_83 {l : Launch} {E : Ev} {Q : Int → Sh → Dm → Prop} {G : Sh} {D : Dm} (hL : Lay G) {v1 v2 v3 v4 v5 v6 v7 v8 v9 v10 : Int}  (h : ((-2147483648 ≤ v10 ∧ v10 < 2147483648) ∧ (-2147483648 ≤ v5 ∧ v5 < 2147483648)) ∧ ((v5 ≤ v10 → Q v9 G (upd2 D 107 1 0)) ∧ (v10 < v5 → C0 l E MX10_laysRow 2 [vR E 107] G D (fun r6 D6 => KX10_luck l E Q 102 [(0, vR E 107), (1, vI v1), (2, vI v2), (3, vI v3), (4, vI v4), (5, vI v5), (6, vI v6), (7, vI v7), (8, vI v8), (9, vI v9), (10, vI v10), (11, vI ((D6 107 36) - 1))] G D6)))) : KX10_luck l E Q 83 [(0, vR E 107), (1, vI v1), (2, vI v2), (3, vI v3), (4, vI v4), (5, vI v5), (6, vI v6), (7, vI v7), (8, vI v8), (9, vI v9), (10, vI v10)] G D := by
  obtain ⟨s1, h⟩ := h
  refine go_iload 10 dX10_luck_83 rfl ?_
  refine go_iload 5 dX10_luck_85 rfl ?_
  refine go_icmp_ge 211 dX10_luck_87 (by decide) s1.1 s1.2 (fun c2 => ?_) (fun c2 => ?_)
  · have h := h.1 c2
    refine go_aload_n 0 dX10_luck_211 rfl rfl ?_
    refine go_iload 9 dX10_luck_212 rfl ?_
    refine go_vIp (M := MX10_gives) [vI v9] [] mv_X10_204 (hL.1 107 _ rfl) rfl (by decide) ⟨Nat.le_of_ble_eq_true rfl, Nat.le_of_ble_eq_true rfl⟩ ⟨Nat.le_refl _, Nat.le_refl _⟩ rfl rfl (Nat.le_of_ble_eq_true rfl) dX10_luck_214 (p_X10_gives hL) ?_
    exact go_ireturn (Nat.le_refl _) (Nat.le_refl _) rfl dX10_luck_217 h
  · have h := h.2 c2
    refine go_aload_n 0 dX10_luck_90 rfl rfl ?_
    refine go_vV (M := MX10_laysRow) [] [] mv_X10_343 (hL.1 107 _ rfl) rfl (by decide) ⟨Nat.le_of_ble_eq_true rfl, Nat.le_of_ble_eq_true rfl⟩ ⟨Nat.le_refl _, Nat.le_refl _⟩ rfl rfl (Nat.le_of_ble_eq_true rfl) dX10_luck_91 h (fun r6 D6 h => ?_)
    refine go_aload_n 0 dX10_luck_94 rfl rfl ?_
    refine go_getI 36 (i := 36) f_X10_340 rfl (hL.1 107 _ rfl) dX10_luck_95 ?_
    refine go_iconst dX10_luck_98 ?_
    refine go_isub dX10_luck_99 ?_
    refine go_istore [1, 2, 3, 4, 5, 6, 7, 8, 9, 10, 11, 0] (L' := [(0, vR E 107), (1, vI v1), (2, vI v2), (3, vI v3), (4, vI v4), (5, vI v5), (6, vI v6), (7, vI v7), (8, vI v8), (9, vI v9), (10, vI v10), (11, vI ((D6 107 36) - 1))]) dX10_luck_100 (by decide) rfl ?_
    exact h
theorem s_X10_luck_102 {l : Launch} {E : Ev} {Q : Int → Sh → Dm → Prop} {G : Sh} {D : Dm} (hL : Lay G) {v1 v2 v3 v4 v5 v6 v7 v8 v9 v10 v11 : Int}  (h : ((-2147483648 ≤ v11 ∧ v11 < 2147483648)) ∧ ((v11 ≤ 0 → C0 l E MX10_deals 2 [vR E 107] G D (fun r4 D4 => ((0 ≤ v1 ∧ v1 < 4)) ∧ C0 l E MX10_starvesIn 0 [vR E 107, vI v1, vI (D4 124 v1), vI v2, vI v3] G D4 (fun r6 D6 => ((-2147483648 ≤ r6 ∧ r6 < 2147483648) ∧ (-2147483648 ≤ v7 ∧ v7 < 2147483648)) ∧ ((v7 ≤ r6 → KX10_luck l E Q 83 [(0, vR E 107), (1, vI v1), (2, vI v2), (3, vI v3), (4, vI v4), (5, vI v5), (6, vI v6), (7, vI v7), (8, vI v8), (9, vI (v9 + 0)), (10, vI (v10 + 1))] G D6) ∧ (r6 < v7 → KX10_luck l E Q 83 [(0, vR E 107), (1, vI v1), (2, vI v2), (3, vI v3), (4, vI v4), (5, vI v5), (6, vI v6), (7, vI v7), (8, vI v8), (9, vI (v9 + 1)), (10, vI (v10 + 1))] G D6))))) ∧ (0 < v11 → ((-2147483648 ≤ ((v8 * 4093) + 15731) ∧ ((v8 * 4093) + 15731) < 2147483648) ∧ (-2147483648 ≤ (Int.tmod ((v8 * 4093) + 15731) 65536) ∧ (Int.tmod ((v8 * 4093) + 15731) 65536) < 2147483648) ∧ (-2147483648 ≤ (Int.tdiv (Int.tmod ((v8 * 4093) + 15731) 65536) 8) ∧ (Int.tdiv (Int.tmod ((v8 * 4093) + 15731) 65536) 8) < 2147483648) ∧ (0 < (v11 + 1) ∧ (v11 + 1) < 2147483648) ∧ (0 ≤ v11 ∧ v11 < 10) ∧ (0 ≤ (Int.tmod (Int.tdiv (Int.tmod ((v8 * 4093) + 15731) 65536) 8) (v11 + 1)) ∧ (Int.tmod (Int.tdiv (Int.tmod ((v8 * 4093) + 15731) 65536) 8) (v11 + 1)) < 10) ∧ (-2147483648 ≤ (D 123 v11) ∧ (D 123 v11) < 2147483648)) ∧ KX10_luck l E Q 102 [(0, vR E 107), (1, vI v1), (2, vI v2), (3, vI v3), (4, vI v4), (5, vI v5), (6, vI v6), (7, vI v7), (8, vI (Int.tmod ((v8 * 4093) + 15731) 65536)), (9, vI v9), (10, vI v10), (11, vI (v11 + (-1)))] G (upd2 (upd2 D 123 v11 (D 123 (Int.tmod (Int.tdiv (Int.tmod ((v8 * 4093) + 15731) 65536) 8) (v11 + 1)))) 123 (Int.tmod (Int.tdiv (Int.tmod ((v8 * 4093) + 15731) 65536) 8) (v11 + 1)) (D 123 v11))))) : KX10_luck l E Q 102 [(0, vR E 107), (1, vI v1), (2, vI v2), (3, vI v3), (4, vI v4), (5, vI v5), (6, vI v6), (7, vI v7), (8, vI v8), (9, vI v9), (10, vI v10), (11, vI v11)] G D := by
  obtain ⟨s1, h⟩ := h
  refine go_iload 11 dX10_luck_102 rfl ?_
  refine go_if_le 173 dX10_luck_104 (by decide) s1 (fun c2 => ?_) (fun c2 => ?_)
  · have h := h.1 c2
    refine go_aload_n 0 dX10_luck_173 rfl rfl ?_
    refine go_vV (M := MX10_deals) [] [] mv_X10_349 (hL.1 107 _ rfl) rfl (by decide) ⟨Nat.le_of_ble_eq_true rfl, Nat.le_of_ble_eq_true rfl⟩ ⟨Nat.le_refl _, Nat.le_refl _⟩ rfl rfl (Nat.le_of_ble_eq_true rfl) dX10_luck_174 h (fun r4 D4 h => ?_)
    obtain ⟨s5, h⟩ := h
    refine go_iload 9 dX10_luck_177 rfl ?_
    refine go_aload_n 0 dX10_luck_179 rfl rfl ?_
    refine go_iload_n 1 dX10_luck_180 rfl rfl ?_
    refine go_aload_n 0 dX10_luck_181 rfl rfl ?_
    refine go_getR 35 f_X10_79 rfl (hL.1 107 _ rfl) (hL.2.1 107 35 _ rfl (by decide)) dX10_luck_182 ?_
    refine go_iload_n 1 dX10_luck_185 rfl rfl ?_
    refine go_iaload (hL.1 124 _ rfl) (b := 4) rfl (by decide) s5 dX10_luck_186 ?_
    refine go_iload_n 2 dX10_luck_187 rfl rfl ?_
    refine go_iload_n 3 dX10_luck_188 rfl rfl ?_
    refine go_vI (M := MX10_starvesIn) [vI v1, vI (D4 124 v1), vI v2, vI v3] [vI v9] mv_X10_356 (hL.1 107 _ rfl) rfl (by decide) ⟨Nat.le_of_ble_eq_true rfl, Nat.le_of_ble_eq_true rfl⟩ ⟨Nat.le_refl _, Nat.le_refl _⟩ rfl rfl (Nat.le_of_ble_eq_true rfl) dX10_luck_189 h (fun r6 D6 h => ?_)
    obtain ⟨s7, h⟩ := h
    refine go_iload 7 dX10_luck_192 rfl ?_
    refine go_icmp_ge 201 dX10_luck_194 (by decide) s7.1 s7.2 (fun c8 => ?_) (fun c8 => ?_)
    · have h := h.1 c8
      refine go_iconst dX10_luck_201 ?_
      refine go_iadd dX10_luck_202 ?_
      refine go_istore [1, 2, 3, 4, 5, 6, 7, 8, 9, 0, 10, 11] (L' := [(0, vR E 107), (1, vI v1), (2, vI v2), (3, vI v3), (4, vI v4), (5, vI v5), (6, vI v6), (7, vI v7), (8, vI v8), (9, vI (v9 + 0)), (10, vI v10), (11, vI v11)]) dX10_luck_203 (by decide) rfl ?_
      refine go_iinc 10 [1, 2, 3, 4, 5, 6, 7, 8, 9, 10, 0, 11] (L' := [(0, vR E 107), (1, vI v1), (2, vI v2), (3, vI v3), (4, vI v4), (5, vI v5), (6, vI v6), (7, vI v7), (8, vI v8), (9, vI (v9 + 0)), (10, vI (v10 + 1)), (11, vI v11)]) dX10_luck_205 (by decide) rfl rfl ?_
      refine go_goto 83 dX10_luck_208 (by decide) ?_
      refine go_sub [0, 1, 2, 3, 4, 5, 6, 7, 8, 9, 10] (L' := [(0, vR E 107), (1, vI v1), (2, vI v2), (3, vI v3), (4, vI v4), (5, vI v5), (6, vI v6), (7, vI v7), (8, vI v8), (9, vI (v9 + 0)), (10, vI (v10 + 1))]) rfl ?_
      exact h
    · have h := h.2 c8
      refine go_iconst dX10_luck_197 ?_
      refine go_goto 202 dX10_luck_198 (by decide) ?_
      refine go_iadd dX10_luck_202 ?_
      refine go_istore [1, 2, 3, 4, 5, 6, 7, 8, 9, 0, 10, 11] (L' := [(0, vR E 107), (1, vI v1), (2, vI v2), (3, vI v3), (4, vI v4), (5, vI v5), (6, vI v6), (7, vI v7), (8, vI v8), (9, vI (v9 + 1)), (10, vI v10), (11, vI v11)]) dX10_luck_203 (by decide) rfl ?_
      refine go_iinc 10 [1, 2, 3, 4, 5, 6, 7, 8, 9, 10, 0, 11] (L' := [(0, vR E 107), (1, vI v1), (2, vI v2), (3, vI v3), (4, vI v4), (5, vI v5), (6, vI v6), (7, vI v7), (8, vI v8), (9, vI (v9 + 1)), (10, vI (v10 + 1)), (11, vI v11)]) dX10_luck_205 (by decide) rfl rfl ?_
      refine go_goto 83 dX10_luck_208 (by decide) ?_
      refine go_sub [0, 1, 2, 3, 4, 5, 6, 7, 8, 9, 10] (L' := [(0, vR E 107), (1, vI v1), (2, vI v2), (3, vI v3), (4, vI v4), (5, vI v5), (6, vI v6), (7, vI v7), (8, vI v8), (9, vI (v9 + 1)), (10, vI (v10 + 1))]) rfl ?_
      exact h
  · have h := h.2 c2
    obtain ⟨s11, h⟩ := h
    refine go_iload 8 dX10_luck_107 rfl ?_
    refine go_sipush dX10_luck_109 (by decide) ?_
    refine go_imul dX10_luck_112 ?_
    refine go_sipush dX10_luck_113 (by decide) ?_
    refine go_iadd dX10_luck_116 ?_
    refine go_ldcw (x := 65536) k_X10_359 dX10_luck_117 ?_
    refine go_irem ⟨s11.1, (by decide)⟩ dX10_luck_120 ?_
    refine go_istore [1, 2, 3, 4, 5, 6, 7, 8, 0, 9, 10, 11] (L' := [(0, vR E 107), (1, vI v1), (2, vI v2), (3, vI v3), (4, vI v4), (5, vI v5), (6, vI v6), (7, vI v7), (8, vI (Int.tmod ((v8 * 4093) + 15731) 65536)), (9, vI v9), (10, vI v10), (11, vI v11)]) dX10_luck_121 (by decide) rfl ?_
    refine go_iload 8 dX10_luck_123 rfl ?_
    refine go_bipush dX10_luck_125 (by decide) ?_
    refine go_idiv ⟨s11.2.1, (by decide)⟩ dX10_luck_127 ?_
    refine go_iload 11 dX10_luck_128 rfl ?_
    refine go_iconst dX10_luck_130 ?_
    refine go_iadd dX10_luck_131 ?_
    refine go_irem ⟨s11.2.2.1, s11.2.2.2.1⟩ dX10_luck_132 ?_
    refine go_istore [1, 2, 3, 4, 5, 6, 7, 8, 9, 10, 11, 12, 0] (L' := [(0, vR E 107), (1, vI v1), (2, vI v2), (3, vI v3), (4, vI v4), (5, vI v5), (6, vI v6), (7, vI v7), (8, vI (Int.tmod ((v8 * 4093) + 15731) 65536)), (9, vI v9), (10, vI v10), (11, vI v11), (12, vI (Int.tmod (Int.tdiv (Int.tmod ((v8 * 4093) + 15731) 65536) 8) (v11 + 1)))]) dX10_luck_133 (by decide) rfl ?_
    refine go_aload_n 0 dX10_luck_135 rfl rfl ?_
    refine go_getR 34 f_X10_76 rfl (hL.1 107 _ rfl) (hL.2.1 107 34 _ rfl (by decide)) dX10_luck_136 ?_
    refine go_iload 11 dX10_luck_139 rfl ?_
    refine go_iaload (hL.1 123 _ rfl) (b := 10) rfl (by decide) s11.2.2.2.2.1 dX10_luck_141 ?_
    refine go_istore [1, 2, 3, 4, 5, 6, 7, 8, 9, 10, 11, 12, 13, 0] (L' := [(0, vR E 107), (1, vI v1), (2, vI v2), (3, vI v3), (4, vI v4), (5, vI v5), (6, vI v6), (7, vI v7), (8, vI (Int.tmod ((v8 * 4093) + 15731) 65536)), (9, vI v9), (10, vI v10), (11, vI v11), (12, vI (Int.tmod (Int.tdiv (Int.tmod ((v8 * 4093) + 15731) 65536) 8) (v11 + 1))), (13, vI (D 123 v11))]) dX10_luck_142 (by decide) rfl ?_
    refine go_aload_n 0 dX10_luck_144 rfl rfl ?_
    refine go_getR 34 f_X10_76 rfl (hL.1 107 _ rfl) (hL.2.1 107 34 _ rfl (by decide)) dX10_luck_145 ?_
    refine go_iload 11 dX10_luck_148 rfl ?_
    refine go_aload_n 0 dX10_luck_150 rfl rfl ?_
    refine go_getR 34 f_X10_76 rfl (hL.1 107 _ rfl) (hL.2.1 107 34 _ rfl (by decide)) dX10_luck_151 ?_
    refine go_iload 12 dX10_luck_154 rfl ?_
    refine go_iaload (hL.1 123 _ rfl) (b := 10) rfl (by decide) s11.2.2.2.2.2.1 dX10_luck_156 ?_
    refine go_rngI (c := 123) (i := (Int.tmod (Int.tdiv (Int.tmod ((v8 * 4093) + 15731) 65536) 8) (v11 + 1))) (hL.1 123 _ rfl) rfl (fun (q12 : -2147483648 ≤ (D 123 (Int.tmod (Int.tdiv (Int.tmod ((v8 * 4093) + 15731) 65536) 8) (v11 + 1))) ∧ (D 123 (Int.tmod (Int.tdiv (Int.tmod ((v8 * 4093) + 15731) 65536) 8) (v11 + 1))) < 2147483648) => ?_)
    refine go_iastore (hL.1 123 _ rfl) (b := 10) rfl (by decide) s11.2.2.2.2.1 q12 dX10_luck_157 ?_
    refine go_aload_n 0 dX10_luck_158 rfl rfl ?_
    refine go_getR 34 f_X10_76 rfl (hL.1 107 _ rfl) (hL.2.1 107 34 _ rfl (by decide)) dX10_luck_159 ?_
    refine go_iload 12 dX10_luck_162 rfl ?_
    refine go_iload 13 dX10_luck_164 rfl ?_
    refine go_iastore (hL.1 123 _ rfl) (b := 10) rfl (by decide) s11.2.2.2.2.2.1 s11.2.2.2.2.2.2 dX10_luck_166 ?_
    refine go_iinc 11 [1, 2, 3, 4, 5, 6, 7, 8, 9, 10, 11, 0, 12, 13] (L' := [(0, vR E 107), (1, vI v1), (2, vI v2), (3, vI v3), (4, vI v4), (5, vI v5), (6, vI v6), (7, vI v7), (8, vI (Int.tmod ((v8 * 4093) + 15731) 65536)), (9, vI v9), (10, vI v10), (11, vI (v11 + (-1))), (12, vI (Int.tmod (Int.tdiv (Int.tmod ((v8 * 4093) + 15731) 65536) 8) (v11 + 1))), (13, vI (D 123 v11))]) dX10_luck_167 (by decide) rfl rfl ?_
    refine go_goto 102 dX10_luck_170 (by decide) ?_
    refine go_sub [0, 1, 2, 3, 4, 5, 6, 7, 8, 9, 10, 11] (L' := [(0, vR E 107), (1, vI v1), (2, vI v2), (3, vI v3), (4, vI v4), (5, vI v5), (6, vI v6), (7, vI v7), (8, vI (Int.tmod ((v8 * 4093) + 15731) 65536)), (9, vI v9), (10, vI v10), (11, vI (v11 + (-1)))]) rfl ?_
    exact h
theorem s_X10_mark {l : Launch} {E : Ev} {Q : Int → Sh → Dm → Prop} {G : Sh} {D : Dm} (hL : Lay G)  (h : (((D 107 37) ≠ 3 → ((-2147483648 ≤ ((D 107 37) + 1) ∧ ((D 107 37) + 1) < 2147483648)) ∧ C0 l E MX10_copies 2 [vR E 107, vI 0, vI (100 * ((D 107 37) + 1))] G (upd2 D 107 37 ((D 107 37) + 1)) (fun r5 D5 => Q (D5 107 37) G (upd2 D5 107 1 0))) ∧ ((D 107 37) = 3 → Q (-1) G (upd2 D 107 1 4)))) : Ct l E MX10_mark 0 0 0 [vR E 107] G D Q := by
  refine Ct.of (by decide) (Nat.le_of_ble_eq_true rfl) ?_
  show KX10_mark l E Q 0 [(0, vR E 107)] G D
  refine go_aload_n 0 dX10_mark_0 rfl rfl ?_
  refine go_getI 37 (i := 37) f_X10_360 rfl (hL.1 107 _ rfl) dX10_mark_1 ?_
  refine go_iconst dX10_mark_4 ?_
  refine go_rngI (c := 107) (i := 37) (hL.1 107 _ rfl) rfl (fun (q2 : -2147483648 ≤ (D 107 37) ∧ (D 107 37) < 2147483648) => ?_)
  refine go_icmp_ne 14 dX10_mark_5 (by decide) q2 (by decide) (fun c3 => ?_) (fun c3 => ?_)
  · have h := h.1 c3
    obtain ⟨s4, h⟩ := h
    refine go_aload_n 0 dX10_mark_14 rfl rfl ?_
    refine go_dup rfl dX10_mark_15 ?_
    refine go_getI 37 (i := 37) f_X10_360 rfl (hL.1 107 _ rfl) dX10_mark_16 ?_
    refine go_iconst dX10_mark_19 ?_
    refine go_iadd dX10_mark_20 ?_
    refine go_putI 37 (i := 37) s4 f_X10_360 rfl (hL.1 107 _ rfl) dX10_mark_21 ?_
    refine go_aload_n 0 dX10_mark_24 rfl rfl ?_
    refine go_iconst dX10_mark_25 ?_
    refine go_bipush dX10_mark_26 (by decide) ?_
    refine go_aload_n 0 dX10_mark_28 rfl rfl ?_
    refine go_getI 37 (i := 37) f_X10_360 rfl (hL.1 107 _ rfl) dX10_mark_29 ?_
    refine go_imul dX10_mark_32 ?_
    refine go_vV (M := MX10_copies) [vI 0, vI (100 * ((D 107 37) + 1))] [] mv_X10_200 (hL.1 107 _ rfl) rfl (by decide) ⟨Nat.le_of_ble_eq_true rfl, Nat.le_of_ble_eq_true rfl⟩ ⟨Nat.le_refl _, Nat.le_refl _⟩ rfl rfl (Nat.le_of_ble_eq_true rfl) dX10_mark_33 h (fun r5 D5 h => ?_)
    refine go_aload_n 0 dX10_mark_36 rfl rfl ?_
    refine go_aload_n 0 dX10_mark_37 rfl rfl ?_
    refine go_getI 37 (i := 37) f_X10_360 rfl (hL.1 107 _ rfl) dX10_mark_38 ?_
    refine go_vIp (M := MX10_gives) [vI (D5 107 37)] [] mv_X10_204 (hL.1 107 _ rfl) rfl (by decide) ⟨Nat.le_of_ble_eq_true rfl, Nat.le_of_ble_eq_true rfl⟩ ⟨Nat.le_refl _, Nat.le_refl _⟩ rfl rfl (Nat.le_of_ble_eq_true rfl) dX10_mark_41 (p_X10_gives hL) ?_
    exact go_ireturn (Nat.le_refl _) (Nat.le_refl _) rfl dX10_mark_44 h
  · have h := h.2 c3
    refine go_aload_n 0 dX10_mark_8 rfl rfl ?_
    refine go_iconst dX10_mark_9 ?_
    refine go_vIp (M := MX10_refuse) [vI 4] [] mv_X10_194 (hL.1 107 _ rfl) rfl (by decide) ⟨Nat.le_of_ble_eq_true rfl, Nat.le_of_ble_eq_true rfl⟩ ⟨Nat.le_refl _, Nat.le_refl _⟩ rfl rfl (Nat.le_of_ble_eq_true rfl) dX10_mark_10 (p_X10_refuse hL (by decide)) ?_
    exact go_ireturn (Nat.le_refl _) (Nat.le_refl _) rfl dX10_mark_13 h
theorem s_X10_back {l : Launch} {E : Ev} {Q : Int → Sh → Dm → Prop} {G : Sh} {D : Dm} (hL : Lay G)  (h : (((D 107 37) ≠ 0 → C0 l E MX10_copies 2 [vR E 107, vI (100 * (D 107 37)), vI 0] G D (fun r5 D5 => ((-2147483648 ≤ ((D5 107 37) - 1) ∧ ((D5 107 37) - 1) < 2147483648)) ∧ Q ((D5 107 37) - 1) G (upd2 (upd2 D5 107 37 ((D5 107 37) - 1)) 107 1 0))) ∧ ((D 107 37) = 0 → Q (-1) G (upd2 D 107 1 6)))) : Ct l E MX10_back 0 0 0 [vR E 107] G D Q := by
  refine Ct.of (by decide) (Nat.le_of_ble_eq_true rfl) ?_
  show KX10_back l E Q 0 [(0, vR E 107)] G D
  refine go_aload_n 0 dX10_back_0 rfl rfl ?_
  refine go_getI 37 (i := 37) f_X10_360 rfl (hL.1 107 _ rfl) dX10_back_1 ?_
  refine go_rngI (c := 107) (i := 37) (hL.1 107 _ rfl) rfl (fun (q2 : -2147483648 ≤ (D 107 37) ∧ (D 107 37) < 2147483648) => ?_)
  refine go_if_ne 14 dX10_back_4 (by decide) q2 (fun c3 => ?_) (fun c3 => ?_)
  · have h := h.1 c3
    refine go_aload_n 0 dX10_back_14 rfl rfl ?_
    refine go_bipush dX10_back_15 (by decide) ?_
    refine go_aload_n 0 dX10_back_17 rfl rfl ?_
    refine go_getI 37 (i := 37) f_X10_360 rfl (hL.1 107 _ rfl) dX10_back_18 ?_
    refine go_imul dX10_back_21 ?_
    refine go_iconst dX10_back_22 ?_
    refine go_vV (M := MX10_copies) [vI (100 * (D 107 37)), vI 0] [] mv_X10_200 (hL.1 107 _ rfl) rfl (by decide) ⟨Nat.le_of_ble_eq_true rfl, Nat.le_of_ble_eq_true rfl⟩ ⟨Nat.le_refl _, Nat.le_refl _⟩ rfl rfl (Nat.le_of_ble_eq_true rfl) dX10_back_23 h (fun r5 D5 h => ?_)
    obtain ⟨s6, h⟩ := h
    refine go_aload_n 0 dX10_back_26 rfl rfl ?_
    refine go_dup rfl dX10_back_27 ?_
    refine go_getI 37 (i := 37) f_X10_360 rfl (hL.1 107 _ rfl) dX10_back_28 ?_
    refine go_iconst dX10_back_31 ?_
    refine go_isub dX10_back_32 ?_
    refine go_putI 37 (i := 37) s6 f_X10_360 rfl (hL.1 107 _ rfl) dX10_back_33 ?_
    refine go_aload_n 0 dX10_back_36 rfl rfl ?_
    refine go_aload_n 0 dX10_back_37 rfl rfl ?_
    refine go_getI 37 (i := 37) f_X10_360 rfl (hL.1 107 _ rfl) dX10_back_38 ?_
    refine go_vIp (M := MX10_gives) [vI ((D5 107 37) - 1)] [] mv_X10_204 (hL.1 107 _ rfl) rfl (by decide) ⟨Nat.le_of_ble_eq_true rfl, Nat.le_of_ble_eq_true rfl⟩ ⟨Nat.le_refl _, Nat.le_refl _⟩ rfl rfl (Nat.le_of_ble_eq_true rfl) dX10_back_41 (p_X10_gives hL) ?_
    exact go_ireturn (Nat.le_refl _) (Nat.le_refl _) rfl dX10_back_44 h
  · have h := h.2 c3
    refine go_aload_n 0 dX10_back_7 rfl rfl ?_
    refine go_bipush dX10_back_8 (by decide) ?_
    refine go_vIp (M := MX10_refuse) [vI 6] [] mv_X10_194 (hL.1 107 _ rfl) rfl (by decide) ⟨Nat.le_of_ble_eq_true rfl, Nat.le_of_ble_eq_true rfl⟩ ⟨Nat.le_refl _, Nat.le_refl _⟩ rfl rfl (Nat.le_of_ble_eq_true rfl) dX10_back_10 (p_X10_refuse hL (by decide)) ?_
    exact go_ireturn (Nat.le_refl _) (Nat.le_refl _) rfl dX10_back_13 h
