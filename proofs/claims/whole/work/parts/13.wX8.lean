theorem s_X8_heldBy {l : Launch} {E : Ev} {Q : Int → Sh → Dm → Prop} {G : Sh} {D : Dm} (hL : Lay G) {v1 : Int}  (h : KX8_heldBy l E Q 4 [(0, vR E 1), (1, vI v1), (2, vI 0), (3, vI 0)] G D) : Ct l E MX8_heldBy 0 0 0 [vR E 1, vI v1] G D Q := by
  refine Ct.of (by decide) (Nat.le_of_ble_eq_true rfl) ?_
  show KX8_heldBy l E Q 0 [(0, vR E 1), (1, vI v1)] G D
  refine go_iconst dX8_heldBy_0 ?_
  refine go_istore_n [1, 2, 0] (L' := [(0, vR E 1), (1, vI v1), (2, vI 0)]) dX8_heldBy_1 rfl (by decide) rfl ?_
  refine go_iconst dX8_heldBy_2 ?_
  refine go_istore_n [1, 2, 3, 0] (L' := [(0, vR E 1), (1, vI v1), (2, vI 0), (3, vI 0)]) dX8_heldBy_3 rfl (by decide) rfl ?_
  exact h
theorem s_X8_heldBy_4 {l : Launch} {E : Ev} {Q : Int → Sh → Dm → Prop} {G : Sh} {D : Dm} (hL : Lay G) {v1 v2 v3 : Int}  (h : ((-2147483648 ≤ v3 ∧ v3 < 2147483648)) ∧ (((D 1 0) ≤ v3 → Q v2 G D) ∧ (v3 < (D 1 0) → ((0 ≤ v3 ∧ v3 < 10) ∧ (-2147483648 ≤ v1 ∧ v1 < 2147483648)) ∧ (((D 6 v3) ≠ v1 → KX8_heldBy l E Q 4 [(0, vR E 1), (1, vI v1), (2, vI v2), (3, vI (v3 + 1))] G D) ∧ ((D 6 v3) = v1 → KX8_heldBy l E Q 4 [(0, vR E 1), (1, vI v1), (2, vI (iO v2 (iSl 1 v3))), (3, vI (v3 + 1))] G D))))) : KX8_heldBy l E Q 4 [(0, vR E 1), (1, vI v1), (2, vI v2), (3, vI v3)] G D := by
  obtain ⟨s1, h⟩ := h
  refine go_iload_n 3 dX8_heldBy_4 rfl rfl ?_
  refine go_aload_n 0 dX8_heldBy_5 rfl rfl ?_
  refine go_getI 0 (i := 0) f_X8_9 rfl (hL.1 1 _ rfl) dX8_heldBy_6 ?_
  refine go_rngI (c := 1) (i := 0) (hL.1 1 _ rfl) rfl (fun (q2 : -2147483648 ≤ (D 1 0) ∧ (D 1 0) < 2147483648) => ?_)
  refine go_icmp_ge 34 dX8_heldBy_9 (by decide) s1 q2 (fun c3 => ?_) (fun c3 => ?_)
  · have h := h.1 c3
    refine go_iload_n 2 dX8_heldBy_34 rfl rfl ?_
    exact go_ireturn (Nat.le_refl _) (Nat.le_refl _) rfl dX8_heldBy_35 h
  · have h := h.2 c3
    obtain ⟨s5, h⟩ := h
    refine go_aload_n 0 dX8_heldBy_12 rfl rfl ?_
    refine go_getR 9 f_X8_40 rfl (hL.1 1 _ rfl) (hL.2.1 1 9 _ rfl (by decide)) dX8_heldBy_13 ?_
    refine go_iload_n 3 dX8_heldBy_16 rfl rfl ?_
    refine go_iaload (hL.1 6 _ rfl) (b := 10) rfl (by decide) s5.1 dX8_heldBy_17 ?_
    refine go_iload_n 1 dX8_heldBy_18 rfl rfl ?_
    refine go_rngI (c := 6) (i := v3) (hL.1 6 _ rfl) rfl (fun (q6 : -2147483648 ≤ (D 6 v3) ∧ (D 6 v3) < 2147483648) => ?_)
    refine go_icmp_ne 28 dX8_heldBy_19 (by decide) q6 s5.2 (fun c7 => ?_) (fun c7 => ?_)
    · have h := h.1 c7
      refine go_iinc 3 [1, 2, 3, 0] (L' := [(0, vR E 1), (1, vI v1), (2, vI v2), (3, vI (v3 + 1))]) dX8_heldBy_28 (by decide) rfl rfl ?_
      refine go_goto 4 dX8_heldBy_31 (by decide) ?_
      exact h
    · have h := h.2 c7
      refine go_iload_n 2 dX8_heldBy_22 rfl rfl ?_
      refine go_iconst dX8_heldBy_23 ?_
      refine go_iload_n 3 dX8_heldBy_24 rfl rfl ?_
      refine go_ishl dX8_heldBy_25 ?_
      refine go_ior dX8_heldBy_26 ?_
      refine go_istore_n [1, 2, 0, 3] (L' := [(0, vR E 1), (1, vI v1), (2, vI (iO v2 (iSl 1 v3))), (3, vI v3)]) dX8_heldBy_27 rfl (by decide) rfl ?_
      refine go_iinc 3 [1, 2, 3, 0] (L' := [(0, vR E 1), (1, vI v1), (2, vI (iO v2 (iSl 1 v3))), (3, vI (v3 + 1))]) dX8_heldBy_28 (by decide) rfl rfl ?_
      refine go_goto 4 dX8_heldBy_31 (by decide) ?_
      exact h
theorem s_X8_lots {l : Launch} {E : Ev} {Q : Int → Sh → Dm → Prop} {G : Sh} {D : Dm} (hL : Lay G)  (h : Q (iSl 1 (D 1 1)) G D) : Ct l E MX8_lots 0 0 0 [vR E 1] G D Q := by
  refine Ct.of (by decide) (Nat.le_of_ble_eq_true rfl) ?_
  show KX8_lots l E Q 0 [(0, vR E 1)] G D
  refine go_iconst dX8_lots_0 ?_
  refine go_aload_n 0 dX8_lots_1 rfl rfl ?_
  refine go_getI 1 (i := 1) f_X8_15 rfl (hL.1 1 _ rfl) dX8_lots_2 ?_
  refine go_ishl dX8_lots_5 ?_
  exact go_ireturn (Nat.le_refl _) (Nat.le_refl _) rfl dX8_lots_6 h
theorem p_X8_lots {l : Launch} {E : Ev} {G : Sh} {D : Dm} (hL : Lay G)   : C0 l E MX8_lots 0 [vR E 1] G D (fun r D' => r = (iSl 1 (D 1 1)) ∧ D' = D) := s_X8_lots hL ⟨rfl, rfl, rfl⟩
theorem s_X8_openTo {l : Launch} {E : Ev} {Q : Int → Sh → Dm → Prop} {G : Sh} {D : Dm} (hL : Lay G) {v1 : Int}  (h : C0 l E MX8_heldBy 0 [vR E 1, vI (-1)] G D (fun r2 D2 => C0 l E MX8_heldBy 0 [vR E 1, vI v1] G D2 (fun r4 D4 => Q (iO r2 r4) G D4))) : Ct l E MX8_openTo 0 0 0 [vR E 1, vI v1] G D Q := by
  refine Ct.of (by decide) (Nat.le_of_ble_eq_true rfl) ?_
  show KX8_openTo l E Q 0 [(0, vR E 1), (1, vI v1)] G D
  refine go_aload_n 0 dX8_openTo_0 rfl rfl ?_
  refine go_iconst dX8_openTo_1 ?_
  refine go_vI (M := MX8_heldBy) [vI (-1)] [] mv_X8_95 (hL.1 1 _ rfl) rfl (by decide) ⟨Nat.le_of_ble_eq_true rfl, Nat.le_of_ble_eq_true rfl⟩ ⟨Nat.le_refl _, Nat.le_refl _⟩ rfl rfl (Nat.le_of_ble_eq_true rfl) dX8_openTo_2 h (fun r2 D2 h => ?_)
  refine go_aload_n 0 dX8_openTo_5 rfl rfl ?_
  refine go_iload_n 1 dX8_openTo_6 rfl rfl ?_
  refine go_vI (M := MX8_heldBy) [vI v1] [vI r2] mv_X8_95 (hL.1 1 _ rfl) rfl (by decide) ⟨Nat.le_of_ble_eq_true rfl, Nat.le_of_ble_eq_true rfl⟩ ⟨Nat.le_refl _, Nat.le_refl _⟩ rfl rfl (Nat.le_of_ble_eq_true rfl) dX8_openTo_7 h (fun r4 D4 h => ?_)
  refine go_ior dX8_openTo_10 ?_
  exact go_ireturn (Nat.le_refl _) (Nat.le_refl _) rfl dX8_openTo_11 h
theorem s_X8_sets {l : Launch} {E : Ev} {Q : Int → Sh → Dm → Prop} {G : Sh} {D : Dm} (hL : Lay G)  (h : Q (iSl 1 (D 1 0)) G D) : Ct l E MX8_sets 0 0 0 [vR E 1] G D Q := by
  refine Ct.of (by decide) (Nat.le_of_ble_eq_true rfl) ?_
  show KX8_sets l E Q 0 [(0, vR E 1)] G D
  refine go_iconst dX8_sets_0 ?_
  refine go_aload_n 0 dX8_sets_1 rfl rfl ?_
  refine go_getI 0 (i := 0) f_X8_9 rfl (hL.1 1 _ rfl) dX8_sets_2 ?_
  refine go_ishl dX8_sets_5 ?_
  exact go_ireturn (Nat.le_refl _) (Nat.le_refl _) rfl dX8_sets_6 h
theorem p_X8_sets {l : Launch} {E : Ev} {G : Sh} {D : Dm} (hL : Lay G)   : C0 l E MX8_sets 0 [vR E 1] G D (fun r D' => r = (iSl 1 (D 1 0)) ∧ D' = D) := s_X8_sets hL ⟨rfl, rfl, rfl⟩
theorem s_X8_hasLot {l : Launch} {E : Ev} {Q : Int → Sh → Dm → Prop} {G : Sh} {D : Dm} (hL : Lay G) {v1 : Int}  (h : ((-2147483648 ≤ v1 ∧ v1 < 2147483648)) ∧ ((v1 < 0 → Q 0 G D) ∧ (0 ≤ v1 → (((iSl 1 (D 1 1)) ≤ v1 → Q 0 G D) ∧ (v1 < (iSl 1 (D 1 1)) → Q 1 G D))))) : Ct l E MX8_hasLot 0 0 0 [vR E 1, vI v1] G D Q := by
  refine Ct.of (by decide) (Nat.le_of_ble_eq_true rfl) ?_
  show KX8_hasLot l E Q 0 [(0, vR E 1), (1, vI v1)] G D
  obtain ⟨s1, h⟩ := h
  refine go_iload_n 1 dX8_hasLot_0 rfl rfl ?_
  refine go_if_lt 16 dX8_hasLot_1 (by decide) s1 (fun c2 => ?_) (fun c2 => ?_)
  · have h := h.1 c2
    refine go_iconst dX8_hasLot_16 ?_
    exact go_zreturn (Nat.le_refl _) (Nat.le_refl _) rfl (by decide) dX8_hasLot_17 h
  · have h := h.2 c2
    refine go_iload_n 1 dX8_hasLot_4 rfl rfl ?_
    refine go_aload_n 0 dX8_hasLot_5 rfl rfl ?_
    refine go_vIp (M := MX8_lots) [] [vI v1] mv_X8_88 (hL.1 1 _ rfl) rfl (by decide) ⟨Nat.le_of_ble_eq_true rfl, Nat.le_of_ble_eq_true rfl⟩ ⟨Nat.le_refl _, Nat.le_refl _⟩ rfl rfl (Nat.le_of_ble_eq_true rfl) dX8_hasLot_6 (p_X8_lots hL) ?_
    refine go_icmp_ge 16 dX8_hasLot_9 (by decide) s1 (r32 _) (fun c6 => ?_) (fun c6 => ?_)
    · have h := h.1 c6
      refine go_iconst dX8_hasLot_16 ?_
      exact go_zreturn (Nat.le_refl _) (Nat.le_refl _) rfl (by decide) dX8_hasLot_17 h
    · have h := h.2 c6
      refine go_iconst dX8_hasLot_12 ?_
      refine go_goto 17 dX8_hasLot_13 (by decide) ?_
      exact go_zreturn (Nat.le_refl _) (Nat.le_refl _) rfl (by decide) dX8_hasLot_17 h
theorem p_X8_hasLot {l : Launch} {E : Ev} {G : Sh} {D : Dm} (hL : Lay G) {v1 : Int}  (q0 : -2147483648 ≤ v1 ∧ v1 < 2147483648) : C0 l E MX8_hasLot 0 [vR E 1, vI v1] G D (fun r D' => r = (if ((0 ≤ v1) ∧ (v1 < (iSl 1 (D 1 1)))) then 1 else 0) ∧ D' = D) := by
  refine s_X8_hasLot hL ?_
  refine ⟨q0, ?_⟩
  refine ⟨fun hc => ?_, fun hc => ?_⟩
  · refine ⟨rfl, ?_, rfl⟩
    (split <;> first | rfl | (exfalso; simp_all; done) | omega | simp_all)
  · refine ⟨fun hc => ?_, fun hc => ?_⟩
    · refine ⟨rfl, ?_, rfl⟩
      (split <;> first | rfl | (exfalso; simp_all; done) | omega | simp_all)
    · refine ⟨rfl, ?_, rfl⟩
      (split <;> first | rfl | (exfalso; simp_all; done) | omega | simp_all)
theorem s_X8_empty {l : Launch} {E : Ev} {Q : Int → Sh → Dm → Prop} {G : Sh} {D : Dm} (hL : Lay G)  (h : Q 0 G (upd2 (upd2 (upd2 D 25 0 0) 25 1 0) 25 2 0)) : Ct l E MX8_empty 2 0 0 [vR E 25] G D Q := by
  refine Ct.of (by decide) (Nat.le_of_ble_eq_true rfl) ?_
  show KX8_empty l E Q 0 [(0, vR E 25)] G D
  refine go_aload_n 0 dX8_empty_0 rfl rfl ?_
  refine go_iconst dX8_empty_1 ?_
  refine go_putI 0 (i := 0) (by decide) f_X8_9 rfl (hL.1 25 _ rfl) dX8_empty_2 ?_
  refine go_aload_n 0 dX8_empty_5 rfl rfl ?_
  refine go_iconst dX8_empty_6 ?_
  refine go_putI 1 (i := 1) (by decide) f_X8_15 rfl (hL.1 25 _ rfl) dX8_empty_7 ?_
  refine go_aload_n 0 dX8_empty_10 rfl rfl ?_
  refine go_iconst dX8_empty_11 ?_
  refine go_putI 2 (i := 2) (by decide) f_X8_18 rfl (hL.1 25 _ rfl) dX8_empty_12 ?_
  exact go_return (Nat.le_refl _) (Nat.le_refl _) rfl dX8_empty_15 h
theorem p_X8_empty {l : Launch} {E : Ev} {G : Sh} {D : Dm} (hL : Lay G)   : C0 l E MX8_empty 2 [vR E 25] G D (fun r D' => r = 0 ∧ D' = (upd2 (upd2 (upd2 D 25 0 0) 25 1 0) 25 2 0)) := s_X8_empty hL ⟨rfl, rfl, rfl⟩
theorem s_X8_fallsOn {l : Launch} {E : Ev} {Q : Int → Sh → Dm → Prop} {G : Sh} {D : Dm} (hL : Lay G) {v1 v2 v3 v4 : Int}  (h : ((-2147483648 ≤ v1 ∧ v1 < 2147483648)) ∧ (v1 = 0 → ((0 ≤ v4 ∧ v4 < 10) ∧ (-2147483648 ≤ v2 ∧ v2 < 2147483648)) ∧ (((D 26 v4) < v2 → Q 0 G D) ∧ (v2 ≤ (D 26 v4) → ((-2147483648 ≤ v3 ∧ v3 < 2147483648)) ∧ ((v3 < (D 26 v4) → Q 0 G D) ∧ ((D 26 v4) ≤ v3 → Q 1 G D))))) ∧ (v1 = 1 → ((0 ≤ v4 ∧ v4 < 10) ∧ (-2147483648 ≤ v2 ∧ v2 < 2147483648)) ∧ ((v2 ≤ (D 27 v4) → Q 0 G D) ∧ ((D 27 v4) < v2 → Q 1 G D))) ∧ (v1 = 2 → ((0 ≤ v4 ∧ v4 < 10) ∧ (-2147483648 ≤ v2 ∧ v2 < 2147483648)) ∧ (((D 29 v4) ≠ v2 → Q 0 G D) ∧ ((D 29 v4) = v2 → Q 1 G D))) ∧ ((v1 < 0 ∨ 2 < v1) → Q 1 G D)) : Ct l E MX8_fallsOn 0 0 0 [vR E 25, vI v1, vI v2, vI v3, vI v4] G D Q := by
  refine Ct.of (by decide) (Nat.le_of_ble_eq_true rfl) ?_
  show KX8_fallsOn l E Q 0 [(0, vR E 25), (1, vI v1), (2, vI v2), (3, vI v3), (4, vI v4)] G D
  obtain ⟨s1, h⟩ := h
  refine go_iload_n 1 dX8_fallsOn_0 rfl rfl ?_
  obtain ⟨hk0, hk1, hk2, hdf⟩ := h
  rcases (show v1 = 0 ∨ v1 = 1 ∨ v1 = 2 ∨ (v1 < 0 ∨ 2 < v1) by omega) with hx21 | hx21 | hx21 | hx21
  · refine go_tableIn v1 28 dX8_fallsOn_1 s1 (by omega) (by rw [hx21]; rfl) (by decide) ?_
    have h := hk0 hx21
    obtain ⟨s2, h⟩ := h
    refine go_aload_n 0 dX8_fallsOn_28 rfl rfl ?_
    refine go_getR 5 f_X8_27 rfl (hL.1 25 _ rfl) (hL.2.1 25 5 _ rfl (by decide)) dX8_fallsOn_29 ?_
    refine go_iload 4 dX8_fallsOn_32 rfl ?_
    refine go_iaload (hL.1 26 _ rfl) (b := 10) rfl (by decide) s2.1 dX8_fallsOn_34 ?_
    refine go_iload_n 2 dX8_fallsOn_35 rfl rfl ?_
    refine go_rngI (c := 26) (i := v4) (hL.1 26 _ rfl) rfl (fun (q3 : -2147483648 ≤ (D 26 v4) ∧ (D 26 v4) < 2147483648) => ?_)
    refine go_icmp_lt 54 dX8_fallsOn_36 (by decide) q3 s2.2 (fun c4 => ?_) (fun c4 => ?_)
    · have h := h.1 c4
      refine go_iconst dX8_fallsOn_54 ?_
      exact go_zreturn (Nat.le_refl _) (Nat.le_refl _) rfl (by decide) dX8_fallsOn_55 h
    · have h := h.2 c4
      obtain ⟨s6, h⟩ := h
      refine go_aload_n 0 dX8_fallsOn_39 rfl rfl ?_
      refine go_getR 5 f_X8_27 rfl (hL.1 25 _ rfl) (hL.2.1 25 5 _ rfl (by decide)) dX8_fallsOn_40 ?_
      refine go_iload 4 dX8_fallsOn_43 rfl ?_
      refine go_iaload (hL.1 26 _ rfl) (b := 10) rfl (by decide) s2.1 dX8_fallsOn_45 ?_
      refine go_iload_n 3 dX8_fallsOn_46 rfl rfl ?_
      refine go_icmp_gt 54 dX8_fallsOn_47 (by decide) q3 s6 (fun c7 => ?_) (fun c7 => ?_)
      · have h := h.1 c7
        refine go_iconst dX8_fallsOn_54 ?_
        exact go_zreturn (Nat.le_refl _) (Nat.le_refl _) rfl (by decide) dX8_fallsOn_55 h
      · have h := h.2 c7
        refine go_iconst dX8_fallsOn_50 ?_
        refine go_goto 55 dX8_fallsOn_51 (by decide) ?_
        exact go_zreturn (Nat.le_refl _) (Nat.le_refl _) rfl (by decide) dX8_fallsOn_55 h
  · refine go_tableIn v1 56 dX8_fallsOn_1 s1 (by omega) (by rw [hx21]; rfl) (by decide) ?_
    have h := hk1 hx21
    obtain ⟨s10, h⟩ := h
    refine go_aload_n 0 dX8_fallsOn_56 rfl rfl ?_
    refine go_getR 6 f_X8_31 rfl (hL.1 25 _ rfl) (hL.2.1 25 6 _ rfl (by decide)) dX8_fallsOn_57 ?_
    refine go_iload 4 dX8_fallsOn_60 rfl ?_
    refine go_iaload (hL.1 27 _ rfl) (b := 10) rfl (by decide) s10.1 dX8_fallsOn_62 ?_
    refine go_iload_n 2 dX8_fallsOn_63 rfl rfl ?_
    refine go_rngI (c := 27) (i := v4) (hL.1 27 _ rfl) rfl (fun (q11 : -2147483648 ≤ (D 27 v4) ∧ (D 27 v4) < 2147483648) => ?_)
    refine go_icmp_ge 71 dX8_fallsOn_64 (by decide) q11 s10.2 (fun c12 => ?_) (fun c12 => ?_)
    · have h := h.1 c12
      refine go_iconst dX8_fallsOn_71 ?_
      exact go_zreturn (Nat.le_refl _) (Nat.le_refl _) rfl (by decide) dX8_fallsOn_72 h
    · have h := h.2 c12
      refine go_iconst dX8_fallsOn_67 ?_
      refine go_goto 72 dX8_fallsOn_68 (by decide) ?_
      exact go_zreturn (Nat.le_refl _) (Nat.le_refl _) rfl (by decide) dX8_fallsOn_72 h
  · refine go_tableIn v1 73 dX8_fallsOn_1 s1 (by omega) (by rw [hx21]; rfl) (by decide) ?_
    have h := hk2 hx21
    obtain ⟨s15, h⟩ := h
    refine go_aload_n 0 dX8_fallsOn_73 rfl rfl ?_
    refine go_getR 8 f_X8_37 rfl (hL.1 25 _ rfl) (hL.2.1 25 8 _ rfl (by decide)) dX8_fallsOn_74 ?_
    refine go_iload 4 dX8_fallsOn_77 rfl ?_
    refine go_iaload (hL.1 29 _ rfl) (b := 10) rfl (by decide) s15.1 dX8_fallsOn_79 ?_
    refine go_iload_n 2 dX8_fallsOn_80 rfl rfl ?_
    refine go_rngI (c := 29) (i := v4) (hL.1 29 _ rfl) rfl (fun (q16 : -2147483648 ≤ (D 29 v4) ∧ (D 29 v4) < 2147483648) => ?_)
    refine go_icmp_ne 88 dX8_fallsOn_81 (by decide) q16 s15.2 (fun c17 => ?_) (fun c17 => ?_)
    · have h := h.1 c17
      refine go_iconst dX8_fallsOn_88 ?_
      exact go_zreturn (Nat.le_refl _) (Nat.le_refl _) rfl (by decide) dX8_fallsOn_89 h
    · have h := h.2 c17
      refine go_iconst dX8_fallsOn_84 ?_
      refine go_goto 89 dX8_fallsOn_85 (by decide) ?_
      exact go_zreturn (Nat.le_refl _) (Nat.le_refl _) rfl (by decide) dX8_fallsOn_89 h
  · refine go_tableOut 90 dX8_fallsOn_1 s1 hx21 (by decide) ?_
    have h := hdf hx21
    refine go_iconst dX8_fallsOn_90 ?_
    exact go_zreturn (Nat.le_refl _) (Nat.le_refl _) rfl (by decide) dX8_fallsOn_91 h
theorem s_X8_stripsFallenOn {l : Launch} {E : Ev} {Q : Int → Sh → Dm → Prop} {G : Sh} {D : Dm} (hL : Lay G) {v1 v2 v3 : Int}  (h : KX8_stripsFallenOn l E Q 6 [(0, vR E 25), (1, vI v1), (2, vI v2), (3, vI v3), (4, vI 0), (5, vI 0)] G D) : Ct l E MX8_stripsFallenOn 0 0 0 [vR E 25, vI v1, vI v2, vI v3] G D Q := by
  refine Ct.of (by decide) (Nat.le_of_ble_eq_true rfl) ?_
  show KX8_stripsFallenOn l E Q 0 [(0, vR E 25), (1, vI v1), (2, vI v2), (3, vI v3)] G D
  refine go_iconst dX8_stripsFallenOn_0 ?_
  refine go_istore [1, 2, 3, 4, 0] (L' := [(0, vR E 25), (1, vI v1), (2, vI v2), (3, vI v3), (4, vI 0)]) dX8_stripsFallenOn_1 (by decide) rfl ?_
  refine go_iconst dX8_stripsFallenOn_3 ?_
  refine go_istore [1, 2, 3, 4, 5, 0] (L' := [(0, vR E 25), (1, vI v1), (2, vI v2), (3, vI v3), (4, vI 0), (5, vI 0)]) dX8_stripsFallenOn_4 (by decide) rfl ?_
  exact h
theorem s_X8_stripsFallenOn_6 {l : Launch} {E : Ev} {Q : Int → Sh → Dm → Prop} {G : Sh} {D : Dm} (hL : Lay G) {v1 v2 v3 v4 v5 : Int}  (h : ((-2147483648 ≤ v5 ∧ v5 < 2147483648)) ∧ (((D 25 0) ≤ v5 → Q v4 G D) ∧ (v5 < (D 25 0) → ((0 ≤ v1 ∧ v1 < 6)) ∧ C0 l E MX8_fallsOn 0 [vR E 25, vI (D 31 v1), vI v2, vI v3, vI v5] G D (fun r6 D6 => ((-2147483648 ≤ r6 ∧ r6 < 2147483648)) ∧ ((r6 = 0 → KX8_stripsFallenOn l E Q 6 [(0, vR E 25), (1, vI v1), (2, vI v2), (3, vI v3), (4, vI v4), (5, vI (v5 + 1))] G D6) ∧ (r6 ≠ 0 → KX8_stripsFallenOn l E Q 6 [(0, vR E 25), (1, vI v1), (2, vI v2), (3, vI v3), (4, vI (iO v4 (iSl 1 v5))), (5, vI (v5 + 1))] G D6)))))) : KX8_stripsFallenOn l E Q 6 [(0, vR E 25), (1, vI v1), (2, vI v2), (3, vI v3), (4, vI v4), (5, vI v5)] G D := by
  obtain ⟨s1, h⟩ := h
  refine go_iload 5 dX8_stripsFallenOn_6 rfl ?_
  refine go_aload_n 0 dX8_stripsFallenOn_8 rfl rfl ?_
  refine go_getI 0 (i := 0) f_X8_9 rfl (hL.1 25 _ rfl) dX8_stripsFallenOn_9 ?_
  refine go_rngI (c := 25) (i := 0) (hL.1 25 _ rfl) rfl (fun (q2 : -2147483648 ≤ (D 25 0) ∧ (D 25 0) < 2147483648) => ?_)
  refine go_icmp_ge 47 dX8_stripsFallenOn_12 (by decide) s1 q2 (fun c3 => ?_) (fun c3 => ?_)
  · have h := h.1 c3
    refine go_iload 4 dX8_stripsFallenOn_47 rfl ?_
    exact go_ireturn (Nat.le_refl _) (Nat.le_refl _) rfl dX8_stripsFallenOn_49 h
  · have h := h.2 c3
    obtain ⟨s5, h⟩ := h
    refine go_aload_n 0 dX8_stripsFallenOn_15 rfl rfl ?_
    refine go_aload_n 0 dX8_stripsFallenOn_16 rfl rfl ?_
    refine go_getR 10 f_X8_43 rfl (hL.1 25 _ rfl) (hL.2.1 25 10 _ rfl (by decide)) dX8_stripsFallenOn_17 ?_
    refine go_iload_n 1 dX8_stripsFallenOn_20 rfl rfl ?_
    refine go_iaload (hL.1 31 _ rfl) (b := 6) rfl (by decide) s5 dX8_stripsFallenOn_21 ?_
    refine go_iload_n 2 dX8_stripsFallenOn_22 rfl rfl ?_
    refine go_iload_n 3 dX8_stripsFallenOn_23 rfl rfl ?_
    refine go_iload 5 dX8_stripsFallenOn_24 rfl ?_
    refine go_vI (M := MX8_fallsOn) [vI (D 31 v1), vI v2, vI v3, vI v5] [] mv_X8_99 (hL.1 25 _ rfl) rfl (by decide) ⟨Nat.le_of_ble_eq_true rfl, Nat.le_of_ble_eq_true rfl⟩ ⟨Nat.le_refl _, Nat.le_refl _⟩ rfl rfl (Nat.le_of_ble_eq_true rfl) dX8_stripsFallenOn_26 h (fun r6 D6 h => ?_)
    obtain ⟨s7, h⟩ := h
    refine go_if_eq 41 dX8_stripsFallenOn_29 (by decide) s7 (fun c8 => ?_) (fun c8 => ?_)
    · have h := h.1 c8
      refine go_iinc 5 [1, 2, 3, 4, 5, 0] (L' := [(0, vR E 25), (1, vI v1), (2, vI v2), (3, vI v3), (4, vI v4), (5, vI (v5 + 1))]) dX8_stripsFallenOn_41 (by decide) rfl rfl ?_
      refine go_goto 6 dX8_stripsFallenOn_44 (by decide) ?_
      exact h
    · have h := h.2 c8
      refine go_iload 4 dX8_stripsFallenOn_32 rfl ?_
      refine go_iconst dX8_stripsFallenOn_34 ?_
      refine go_iload 5 dX8_stripsFallenOn_35 rfl ?_
      refine go_ishl dX8_stripsFallenOn_37 ?_
      refine go_ior dX8_stripsFallenOn_38 ?_
      refine go_istore [1, 2, 3, 4, 0, 5] (L' := [(0, vR E 25), (1, vI v1), (2, vI v2), (3, vI v3), (4, vI (iO v4 (iSl 1 v5))), (5, vI v5)]) dX8_stripsFallenOn_39 (by decide) rfl ?_
      refine go_iinc 5 [1, 2, 3, 4, 5, 0] (L' := [(0, vR E 25), (1, vI v1), (2, vI v2), (3, vI v3), (4, vI (iO v4 (iSl 1 v5))), (5, vI (v5 + 1))]) dX8_stripsFallenOn_41 (by decide) rfl rfl ?_
      refine go_goto 6 dX8_stripsFallenOn_44 (by decide) ?_
      exact h
theorem s_X7_isMissing {l : Launch} {E : Ev} {Q : Int → Sh → Dm → Prop} {G : Sh} {D : Dm} (hL : Lay G) {v1 : Int}  (h : ((0 ≤ v1 ∧ v1 < 4)) ∧ (((D 22 v1) ≠ (-1) → Q 0 G D) ∧ ((D 22 v1) = (-1) → Q 1 G D))) : Ct l E MX7_isMissing 0 0 0 [vR E 15, vI v1] G D Q := by
  refine Ct.of (by decide) (Nat.le_of_ble_eq_true rfl) ?_
  show KX7_isMissing l E Q 0 [(0, vR E 15), (1, vI v1)] G D
  obtain ⟨s1, h⟩ := h
  refine go_aload_n 0 dX7_isMissing_0 rfl rfl ?_
  refine go_getR 2 f_X7_20 rfl (hL.1 15 _ rfl) (hL.2.1 15 2 _ rfl (by decide)) dX7_isMissing_1 ?_
  refine go_iload_n 1 dX7_isMissing_4 rfl rfl ?_
  refine go_iaload (hL.1 22 _ rfl) (b := 4) rfl (by decide) s1 dX7_isMissing_5 ?_
  refine go_iconst dX7_isMissing_6 ?_
  refine go_rngI (c := 22) (i := v1) (hL.1 22 _ rfl) rfl (fun (q2 : -2147483648 ≤ (D 22 v1) ∧ (D 22 v1) < 2147483648) => ?_)
  refine go_icmp_ne 14 dX7_isMissing_7 (by decide) q2 (by decide) (fun c3 => ?_) (fun c3 => ?_)
  · have h := h.1 c3
    refine go_iconst dX7_isMissing_14 ?_
    exact go_zreturn (Nat.le_refl _) (Nat.le_refl _) rfl (by decide) dX7_isMissing_15 h
  · have h := h.2 c3
    refine go_iconst dX7_isMissing_10 ?_
    refine go_goto 15 dX7_isMissing_11 (by decide) ?_
    exact go_zreturn (Nat.le_refl _) (Nat.le_refl _) rfl (by decide) dX7_isMissing_15 h
theorem p_X7_isMissing {l : Launch} {E : Ev} {G : Sh} {D : Dm} (hL : Lay G) {v1 : Int}  (q0 : 0 ≤ v1 ∧ v1 < 4) : C0 l E MX7_isMissing 0 [vR E 15, vI v1] G D (fun r D' => r = (if ((D 22 v1) = (-1)) then 1 else 0) ∧ D' = D) := by
  refine s_X7_isMissing hL ?_
  refine ⟨q0, ?_⟩
  refine ⟨fun hc => ?_, fun hc => ?_⟩
  · refine ⟨rfl, ?_, rfl⟩
    (split <;> first | rfl | (exfalso; simp_all; done) | omega | simp_all)
  · refine ⟨rfl, ?_, rfl⟩
    (split <;> first | rfl | (exfalso; simp_all; done) | omega | simp_all)
theorem s_X7_reaches {l : Launch} {E : Ev} {Q : Int → Sh → Dm → Prop} {G : Sh} {D : Dm} (hL : Lay G) {v1 v2 v3 : Int}  (h : ((-2147483648 ≤ v2 ∧ v2 < 2147483648) ∧ (-2147483648 ≤ v3 ∧ v3 < 2147483648) ∧ (0 ≤ v1 ∧ v1 < 4) ∧ (-9223372036854775808 ≤ (v2 + v3) ∧ (v2 + v3) < 9223372036854775808)) ∧ (((D 22 v1) < (v2 + v3) → Q 0 G D) ∧ ((v2 + v3) ≤ (D 22 v1) → Q 1 G D))) : Ct l E MX7_reaches 0 0 0 [vR E 15, vI v1, vI v2, vI v3] G D Q := by
  refine Ct.of (by decide) (Nat.le_of_ble_eq_true rfl) ?_
  show KX7_reaches l E Q 0 [(0, vR E 15), (1, vI v1), (2, vI v2), (3, vI v3)] G D
  obtain ⟨s1, h⟩ := h
  refine go_iload_n 2 dX7_reaches_0 rfl rfl ?_
  refine go_i2l s1.1 dX7_reaches_1 ?_
  refine go_iload_n 3 dX7_reaches_2 rfl rfl ?_
  refine go_i2l s1.2.1 dX7_reaches_3 ?_
  refine go_ladd dX7_reaches_4 ?_
  refine go_aload_n 0 dX7_reaches_5 rfl rfl ?_
  refine go_getR 2 f_X7_20 rfl (hL.1 15 _ rfl) (hL.2.1 15 2 _ rfl (by decide)) dX7_reaches_6 ?_
  refine go_iload_n 1 dX7_reaches_9 rfl rfl ?_
  refine go_iaload (hL.1 22 _ rfl) (b := 4) rfl (by decide) s1.2.2.1 dX7_reaches_10 ?_
  refine go_rngI (c := 22) (i := v1) (hL.1 22 _ rfl) rfl (fun (q2 : -2147483648 ≤ (D 22 v1) ∧ (D 22 v1) < 2147483648) => ?_)
  refine go_i2l q2 dX7_reaches_11 ?_
  refine go_lcmp_gt 20 dX7_reaches_12 dX7_reaches_13 (by decide) s1.2.2.2 (rIJ q2) (fun c3 => ?_) (fun c3 => ?_)
  · have h := h.1 c3
    refine go_iconst dX7_reaches_20 ?_
    exact go_zreturn (Nat.le_refl _) (Nat.le_refl _) rfl (by decide) dX7_reaches_21 h
  · have h := h.2 c3
    refine go_iconst dX7_reaches_16 ?_
    refine go_goto 21 dX7_reaches_17 (by decide) ?_
    exact go_zreturn (Nat.le_refl _) (Nat.le_refl _) rfl (by decide) dX7_reaches_21 h
theorem p_X7_reaches {l : Launch} {E : Ev} {G : Sh} {D : Dm} (hL : Lay G) {v1 v2 v3 : Int}  (q0 : -2147483648 ≤ v2 ∧ v2 < 2147483648) (q1 : -2147483648 ≤ v3 ∧ v3 < 2147483648) (q2 : 0 ≤ v1 ∧ v1 < 4) (q3 : -9223372036854775808 ≤ (v2 + v3) ∧ (v2 + v3) < 9223372036854775808) : C0 l E MX7_reaches 0 [vR E 15, vI v1, vI v2, vI v3] G D (fun r D' => r = (if ((v2 + v3) ≤ (D 22 v1)) then 1 else 0) ∧ D' = D) := by
  refine s_X7_reaches hL ?_
  refine ⟨⟨q0, q1, q2, q3⟩, ?_⟩
  refine ⟨fun hc => ?_, fun hc => ?_⟩
  · refine ⟨rfl, ?_, rfl⟩
    (split <;> first | rfl | (exfalso; simp_all; done) | omega | simp_all)
  · refine ⟨rfl, ?_, rfl⟩
    (split <;> first | rfl | (exfalso; simp_all; done) | omega | simp_all)
theorem s_X7_lay {l : Launch} {E : Ev} {Q : Int → Sh → Dm → Prop} {G : Sh} {D : Dm} (hL : Lay G) {v1 v2 v3 : Int}  (h : ((0 ≤ v1 ∧ v1 < 4) ∧ (-2147483648 ≤ v2 ∧ v2 < 2147483648) ∧ (-2147483648 ≤ v3 ∧ v3 < 2147483648)) ∧ KX7_lay l E Q 17 [(0, vR E 15), (1, vI v1), (2, vI v2), (3, vI v3), (4, vI 0)] G (upd2 (upd2 D 21 v1 v2) 22 v1 v3)) : Ct l E MX7_lay 2 0 0 [vR E 15, vI v1, vI v2, vI v3] G D Q := by
  refine Ct.of (by decide) (Nat.le_of_ble_eq_true rfl) ?_
  show KX7_lay l E Q 0 [(0, vR E 15), (1, vI v1), (2, vI v2), (3, vI v3)] G D
  obtain ⟨s1, h⟩ := h
  refine go_aload_n 0 dX7_lay_0 rfl rfl ?_
  refine go_getR 1 f_X7_16 rfl (hL.1 15 _ rfl) (hL.2.1 15 1 _ rfl (by decide)) dX7_lay_1 ?_
  refine go_iload_n 1 dX7_lay_4 rfl rfl ?_
  refine go_iload_n 2 dX7_lay_5 rfl rfl ?_
  refine go_iastore (hL.1 21 _ rfl) (b := 4) rfl (by decide) s1.1 s1.2.1 dX7_lay_6 ?_
  refine go_aload_n 0 dX7_lay_7 rfl rfl ?_
  refine go_getR 2 f_X7_20 rfl (hL.1 15 _ rfl) (hL.2.1 15 2 _ rfl (by decide)) dX7_lay_8 ?_
  refine go_iload_n 1 dX7_lay_11 rfl rfl ?_
  refine go_iload_n 3 dX7_lay_12 rfl rfl ?_
  refine go_iastore (hL.1 22 _ rfl) (b := 4) rfl (by decide) s1.1 s1.2.2 dX7_lay_13 ?_
  refine go_iconst dX7_lay_14 ?_
  refine go_istore [1, 2, 3, 4, 0] (L' := [(0, vR E 15), (1, vI v1), (2, vI v2), (3, vI v3), (4, vI 0)]) dX7_lay_15 (by decide) rfl ?_
  exact h
theorem s_X7_lay_17 {l : Launch} {E : Ev} {Q : Int → Sh → Dm → Prop} {G : Sh} {D : Dm} (hL : Lay G) {v1 v2 v3 v4 : Int}  (h : ((-2147483648 ≤ v4 ∧ v4 < 2147483648)) ∧ ((60 ≤ v4 → Q 0 G D) ∧ (v4 < 60 → ((0 ≤ v1 ∧ v1 < 4) ∧ (0 ≤ v4 ∧ v4 < 60)) ∧ KX7_lay l E Q 17 [(0, vR E 15), (1, vI v1), (2, vI v2), (3, vI v3), (4, vI (v4 + 1))] G (upd2 D (17 + Int.toNat v1) v4 0)))) : KX7_lay l E Q 17 [(0, vR E 15), (1, vI v1), (2, vI v2), (3, vI v3), (4, vI v4)] G D := by
  obtain ⟨s1, h⟩ := h
  refine go_iload 4 dX7_lay_17 rfl ?_
  refine go_bipush dX7_lay_19 (by decide) ?_
  refine go_icmp_ge 40 dX7_lay_21 (by decide) s1 (by decide) (fun c2 => ?_) (fun c2 => ?_)
  · have h := h.1 c2
    exact go_return (Nat.le_refl _) (Nat.le_refl _) rfl dX7_lay_40 h
  · have h := h.2 c2
    obtain ⟨s4, h⟩ := h
    refine go_aload_n 0 dX7_lay_24 rfl rfl ?_
    refine go_getR 0 f_X7_11 rfl (hL.1 15 _ rfl) (hL.2.1 15 0 _ rfl (by decide)) dX7_lay_25 ?_
    refine go_iload_n 1 dX7_lay_28 rfl rfl ?_
    refine go_aaload (Or.inr rfl) (hL.1 16 _ rfl) (b := 4) rfl (by decide) s4.1 (lay_row hL s4.1) dX7_lay_29 ?_
    refine go_iload 4 dX7_lay_30 rfl ?_
    refine go_lconst (x := 0) dX7_lay_32 rfl ?_
    refine go_lastore (lay_rowT hL s4.1) (b := 60) rfl (by decide) s4.2 (by decide) dX7_lay_33 ?_
    refine go_iinc 4 [1, 2, 3, 4, 0] (L' := [(0, vR E 15), (1, vI v1), (2, vI v2), (3, vI v3), (4, vI (v4 + 1))]) dX7_lay_34 (by decide) rfl rfl ?_
    refine go_goto 17 dX7_lay_37 (by decide) ?_
    exact h
theorem s_X7_cut {l : Launch} {E : Ev} {Q : Int → Sh → Dm → Prop} {G : Sh} {D : Dm} (hL : Lay G) {v0 v2 : Int}  (h : ((-2147483648 ≤ v2 ∧ v2 < 2147483648)) ∧ (v2 = 0 → Q (b8 v0) G D) ∧ (v2 = 1 → Q (s16 v0) G D) ∧ (v2 = 2 → ((-2147483648 ≤ v0 ∧ v0 < 2147483648)) ∧ Q v0 G D) ∧ ((v2 < 0 ∨ 2 < v2) → Q v0 G D)) : Ct l E MX7_cut 1 0 0 [vJ v0, vI v2] G D Q := by
  refine Ct.of (by decide) (Nat.le_of_ble_eq_true rfl) ?_
  show KX7_cut l E Q 0 [(0, vJ v0), (2, vI v2)] G D
  obtain ⟨s1, h⟩ := h
  refine go_iload_n 1 dX7_cut_0 rfl rfl ?_
  obtain ⟨hk0, hk1, hk2, hdf⟩ := h
  rcases (show v2 = 0 ∨ v2 = 1 ∨ v2 = 2 ∨ (v2 < 0 ∨ 2 < v2) by omega) with hx6 | hx6 | hx6 | hx6
  · refine go_tableIn v2 28 dX7_cut_1 s1 (by omega) (by rw [hx6]; rfl) (by decide) ?_
    have h := hk0 hx6
    refine go_lload_n 0 dX7_cut_28 rfl rfl ?_
    refine go_l2i dX7_cut_29 ?_
    refine go_i2b dX7_cut_30 ?_
    refine go_i2l (rb8I _) dX7_cut_31 ?_
    exact go_lreturn (Nat.le_refl _) (Nat.le_refl _) rfl dX7_cut_32 h
  · refine go_tableIn v2 33 dX7_cut_1 s1 (by omega) (by rw [hx6]; rfl) (by decide) ?_
    have h := hk1 hx6
    refine go_lload_n 0 dX7_cut_33 rfl rfl ?_
    refine go_l2i dX7_cut_34 ?_
    refine go_i2s dX7_cut_35 ?_
    refine go_i2l (rs16I _) dX7_cut_36 ?_
    exact go_lreturn (Nat.le_refl _) (Nat.le_refl _) rfl dX7_cut_37 h
  · refine go_tableIn v2 38 dX7_cut_1 s1 (by omega) (by rw [hx6]; rfl) (by decide) ?_
    have h := hk2 hx6
    obtain ⟨s4, h⟩ := h
    refine go_lload_n 0 dX7_cut_38 rfl rfl ?_
    refine go_l2i dX7_cut_39 ?_
    refine go_i2l s4 dX7_cut_40 ?_
    exact go_lreturn (Nat.le_refl _) (Nat.le_refl _) rfl dX7_cut_41 h
  · refine go_tableOut 42 dX7_cut_1 s1 hx6 (by decide) ?_
    have h := hdf hx6
    refine go_lload_n 0 dX7_cut_42 rfl rfl ?_
    exact go_lreturn (Nat.le_refl _) (Nat.le_refl _) rfl dX7_cut_43 h
theorem s_X7_put {l : Launch} {E : Ev} {Q : Int → Sh → Dm → Prop} {G : Sh} {D : Dm} (hL : Lay G) {v1 v2 v3 : Int}  (h : ((0 ≤ v1 ∧ v1 < 4)) ∧ C0 l E MX7_cut 1 [vJ v3, vI (D 21 v1)] G D (fun r2 D2 => ((0 ≤ v2 ∧ v2 < 60) ∧ (-9223372036854775808 ≤ r2 ∧ r2 < 9223372036854775808)) ∧ Q 0 G (upd2 D2 (17 + Int.toNat v1) v2 r2))) : Ct l E MX7_put 2 0 0 [vR E 15, vI v1, vI v2, vJ v3] G D Q := by
  refine Ct.of (by decide) (Nat.le_of_ble_eq_true rfl) ?_
  show KX7_put l E Q 0 [(0, vR E 15), (1, vI v1), (2, vI v2), (3, vJ v3)] G D
  obtain ⟨s1, h⟩ := h
  refine go_aload_n 0 dX7_put_0 rfl rfl ?_
  refine go_getR 0 f_X7_11 rfl (hL.1 15 _ rfl) (hL.2.1 15 0 _ rfl (by decide)) dX7_put_1 ?_
  refine go_iload_n 1 dX7_put_4 rfl rfl ?_
  refine go_aaload (Or.inr rfl) (hL.1 16 _ rfl) (b := 4) rfl (by decide) s1 (lay_row hL s1) dX7_put_5 ?_
  refine go_iload_n 2 dX7_put_6 rfl rfl ?_
  refine go_lload_n 3 dX7_put_7 rfl rfl ?_
  refine go_aload_n 0 dX7_put_8 rfl rfl ?_
  refine go_getR 1 f_X7_16 rfl (hL.1 15 _ rfl) (hL.2.1 15 1 _ rfl (by decide)) dX7_put_9 ?_
  refine go_iload_n 1 dX7_put_12 rfl rfl ?_
  refine go_iaload (hL.1 21 _ rfl) (b := 4) rfl (by decide) s1 dX7_put_13 ?_
  refine go_sJ (M := MX7_cut) [vJ v3, vI (D 21 v1)] [vI v2, vR E (17 + Int.toNat v1)] ms_X7_23 ⟨Nat.le_of_ble_eq_true rfl, Nat.le_of_ble_eq_true rfl⟩ ⟨Nat.le_refl _, Nat.le_refl _⟩ rfl rfl (Nat.le_of_ble_eq_true rfl) dX7_put_14 h (fun r2 D2 h => ?_)
  obtain ⟨s3, h⟩ := h
  refine go_lastore (lay_rowT hL s1) (b := 60) rfl (by decide) s3.1 s3.2 dX7_put_17 ?_
  exact go_return (Nat.le_refl _) (Nat.le_refl _) rfl dX7_put_18 h
theorem s_X7_move {l : Launch} {E : Ev} {Q : Int → Sh → Dm → Prop} {G : Sh} {D : Dm} (hL : Lay G) {v1 v2 v3 v4 v5 : Int}  (h : ((0 ≤ v1 ∧ v1 < 4) ∧ (0 ≤ v3 ∧ v3 < 4) ∧ (0 ≤ v2 ∧ 0 ≤ v4 ∧ 0 ≤ v5 ∧ v2 + v5 ≤ 60 ∧ v4 + v5 ≤ 60)) ∧ Q 0 G (cpy2 D (17 + Int.toNat v1) v2 (17 + Int.toNat v3) v4 v5)) : Ct l E MX7_move 2 0 0 [vR E 15, vI v1, vI v2, vI v3, vI v4, vI v5] G D Q := by
  refine Ct.of (by decide) (Nat.le_of_ble_eq_true rfl) ?_
  show KX7_move l E Q 0 [(0, vR E 15), (1, vI v1), (2, vI v2), (3, vI v3), (4, vI v4), (5, vI v5)] G D
  obtain ⟨s1, h⟩ := h
  refine go_aload_n 0 dX7_move_0 rfl rfl ?_
  refine go_getR 0 f_X7_11 rfl (hL.1 15 _ rfl) (hL.2.1 15 0 _ rfl (by decide)) dX7_move_1 ?_
  refine go_iload_n 1 dX7_move_4 rfl rfl ?_
  refine go_aaload (Or.inr rfl) (hL.1 16 _ rfl) (b := 4) rfl (by decide) s1.1 (lay_row hL s1.1) dX7_move_5 ?_
  refine go_iload_n 2 dX7_move_6 rfl rfl ?_
  refine go_aload_n 0 dX7_move_7 rfl rfl ?_
  refine go_getR 0 f_X7_11 rfl (hL.1 15 _ rfl) (hL.2.1 15 0 _ rfl (by decide)) dX7_move_8 ?_
  refine go_iload_n 3 dX7_move_11 rfl rfl ?_
  refine go_aaload (Or.inr rfl) (hL.1 16 _ rfl) (b := 4) rfl (by decide) s1.2.1 (lay_row hL s1.2.1) dX7_move_12 ?_
  refine go_iload 4 dX7_move_13 rfl ?_
  refine go_iload 5 dX7_move_15 rfl ?_
  refine go_copyJ cp_X7_27 (lay_rowT hL s1.1) (lay_rowT hL s1.2.1) (b0 := 60) (b1 := 60) rfl rfl ⟨(by decide), (by decide)⟩ s1.2.2 ⟨by decide, Nat.le_of_ble_eq_true rfl⟩ dX7_move_17 ?_
  exact go_return (Nat.le_refl _) (Nat.le_refl _) rfl dX7_move_20 h
theorem s_X8_copyRow {l : Launch} {E : Ev} {Q : Int → Sh → Dm → Prop} {G : Sh} {D : Dm} (hL : Lay G) {c : Nat} {nc : Nat} (hc : G.1[c]? = some (100, nc)) (hc2 : nc < 2147483648) {d : Nat} {nd : Nat} (hd : G.1[d]? = some (100, nd)) (hd2 : nd < 2147483648) (h : ((-2147483648 ≤ ((nc : Nat) : Int) ∧ ((nc : Nat) : Int) < 2147483648) ∧ (-2147483648 ≤ ((nd : Nat) : Int) ∧ ((nd : Nat) : Int) < 2147483648) ∧ (0 ≤ (0 : Int) ∧ 0 ≤ (0 : Int) ∧ 0 ≤ (min ((nc : Nat) : Int) ((nd : Nat) : Int)) ∧ (0 : Int) + (min ((nc : Nat) : Int) ((nd : Nat) : Int)) ≤ ((nc : Nat) : Int) ∧ (0 : Int) + (min ((nc : Nat) : Int) ((nd : Nat) : Int)) ≤ ((nd : Nat) : Int))) ∧ Q 0 G (cpy2 D c 0 d 0 (min ((nc : Nat) : Int) ((nd : Nat) : Int)))) : Ct l E MX8_copyRow 2 0 0 [vR E c, vR E d] G D Q := by
  refine Ct.of (by decide) (Nat.le_of_ble_eq_true rfl) ?_
  show KX8_copyRow l E Q 0 [(0, vR E c), (1, vR E d)] G D
  obtain ⟨s1, h⟩ := h
  refine go_aload_n 0 dX8_copyRow_0 rfl rfl ?_
  refine go_iconst dX8_copyRow_1 ?_
  refine go_aload_n 1 dX8_copyRow_2 rfl rfl ?_
  refine go_iconst dX8_copyRow_3 ?_
  refine go_aload_n 0 dX8_copyRow_4 rfl rfl ?_
  refine go_alen 0 hc (by decide) rfl (b := ((nc : Nat) : Int)) rfl dX8_copyRow_5 ?_
  refine go_aload_n 1 dX8_copyRow_6 rfl rfl ?_
  refine go_alen 0 hd (by decide) rfl (b := ((nd : Nat) : Int)) rfl dX8_copyRow_7 ?_
  refine go_mmin ma_X8_72 s1.1 s1.2.1 ⟨by decide, Nat.le_of_ble_eq_true rfl⟩ ⟨Nat.le_refl _, Nat.le_refl _⟩ dX8_copyRow_8 ?_
  refine go_copyI cp_X8_78 hc hd (b0 := ((nc : Nat) : Int)) (b1 := ((nd : Nat) : Int)) rfl rfl ⟨hc2, hd2⟩ s1.2.2 ⟨by decide, Nat.le_of_ble_eq_true rfl⟩ dX8_copyRow_11 ?_
  exact go_return (Nat.le_refl _) (Nat.le_refl _) rfl dX8_copyRow_14 h
theorem s_X8_takePlaces {l : Launch} {E : Ev} {Q : Int → Sh → Dm → Prop} {G : Sh} {D : Dm} (hL : Lay G) {c : Nat} (hc : isVil G c) {d : Nat} (hd : isVil G d) (h : C0 l E MX8_copyRow 2 [vR E (d + 1), vR E (c + 1)] G (upd2 (upd2 (upd2 D c 0 (D d 0)) c 1 ((upd2 D c 0 (D d 0)) d 1)) c 2 ((upd2 (upd2 D c 0 (D d 0)) c 1 ((upd2 D c 0 (D d 0)) d 1)) d 2)) (fun r5 D5 => C0 l E MX8_copyRow 2 [vR E (d + 2), vR E (c + 2)] G D5 (fun r7 D7 => C0 l E MX8_copyRow 2 [vR E (d + 3), vR E (c + 3)] G D7 (fun r9 D9 => C0 l E MX8_copyRow 2 [vR E (d + 4), vR E (c + 4)] G D9 (fun r11 D11 => C0 l E MX8_copyRow 2 [vR E (d + 5), vR E (c + 5)] G D11 (fun r13 D13 => C0 l E MX8_copyRow 2 [vR E (d + 6), vR E (c + 6)] G D13 (fun r15 D15 => C0 l E MX8_copyRow 2 [vR E (d + 7), vR E (c + 7)] G D15 (fun r17 D17 => C0 l E MX8_copyRow 2 [vR E (d + 8), vR E (c + 8)] G D17 (fun r19 D19 => C0 l E MX8_copyRow 2 [vR E (d + 9), vR E (c + 9)] G D19 (fun r21 D21 => C0 l E MX8_copyRow 2 [vR E (d + 10), vR E (c + 10)] G D21 (fun r23 D23 => C0 l E MX8_copyRow 2 [vR E (d + 11), vR E (c + 11)] G D23 (fun r25 D25 => C0 l E MX8_copyRow 2 [vR E (d + 12), vR E (c + 12)] G D25 (fun r27 D27 => Q 0 G D27))))))))))))) : Ct l E MX8_takePlaces 2 0 0 [vR E c, vR E d] G D Q := by
  refine Ct.of (by decide) (Nat.le_of_ble_eq_true rfl) ?_
  show KX8_takePlaces l E Q 0 [(0, vR E c), (1, vR E d)] G D
  refine go_aload_n 0 dX8_takePlaces_0 rfl rfl ?_
  refine go_aload_n 1 dX8_takePlaces_1 rfl rfl ?_
  refine go_getI 0 (i := 0) f_X8_9 rfl hd.1 dX8_takePlaces_2 ?_
  refine go_rngI (c := d) (i := 0) hd.1 rfl (fun (q2 : -2147483648 ≤ (D d 0) ∧ (D d 0) < 2147483648) => ?_)
  refine go_putI 0 (i := 0) q2 f_X8_9 rfl hc.1 dX8_takePlaces_5 ?_
  refine go_aload_n 0 dX8_takePlaces_8 rfl rfl ?_
  refine go_aload_n 1 dX8_takePlaces_9 rfl rfl ?_
  refine go_getI 1 (i := 1) f_X8_15 rfl hd.1 dX8_takePlaces_10 ?_
  refine go_rngI (c := d) (i := 1) hd.1 rfl (fun (q3 : -2147483648 ≤ ((upd2 D c 0 (D d 0)) d 1) ∧ ((upd2 D c 0 (D d 0)) d 1) < 2147483648) => ?_)
  refine go_putI 1 (i := 1) q3 f_X8_15 rfl hc.1 dX8_takePlaces_13 ?_
  refine go_aload_n 0 dX8_takePlaces_16 rfl rfl ?_
  refine go_aload_n 1 dX8_takePlaces_17 rfl rfl ?_
  refine go_getI 2 (i := 2) f_X8_18 rfl hd.1 dX8_takePlaces_18 ?_
  refine go_rngI (c := d) (i := 2) hd.1 rfl (fun (q4 : -2147483648 ≤ ((upd2 (upd2 D c 0 (D d 0)) c 1 ((upd2 D c 0 (D d 0)) d 1)) d 2) ∧ ((upd2 (upd2 D c 0 (D d 0)) c 1 ((upd2 D c 0 (D d 0)) d 1)) d 2) < 2147483648) => ?_)
  refine go_putI 2 (i := 2) q4 f_X8_18 rfl hc.1 dX8_takePlaces_21 ?_
  refine go_aload_n 1 dX8_takePlaces_24 rfl rfl ?_
  refine go_getR 5 f_X8_27 rfl hd.1 (vil_R hd 0 (by decide)) dX8_takePlaces_25 ?_
  refine go_aload_n 0 dX8_takePlaces_28 rfl rfl ?_
  refine go_getR 5 f_X8_27 rfl hc.1 (vil_R hc 0 (by decide)) dX8_takePlaces_29 ?_
  refine go_sV (M := MX8_copyRow) [vR E (d + 1), vR E (c + 1)] [] ms_X8_68 ⟨Nat.le_of_ble_eq_true rfl, Nat.le_of_ble_eq_true rfl⟩ ⟨Nat.le_refl _, Nat.le_refl _⟩ rfl rfl (Nat.le_of_ble_eq_true rfl) dX8_takePlaces_32 h (fun r5 D5 h => ?_)
  refine go_aload_n 1 dX8_takePlaces_35 rfl rfl ?_
  refine go_getR 6 f_X8_31 rfl hd.1 (vil_R hd 1 (by decide)) dX8_takePlaces_36 ?_
  refine go_aload_n 0 dX8_takePlaces_39 rfl rfl ?_
  refine go_getR 6 f_X8_31 rfl hc.1 (vil_R hc 1 (by decide)) dX8_takePlaces_40 ?_
  refine go_sV (M := MX8_copyRow) [vR E (d + 2), vR E (c + 2)] [] ms_X8_68 ⟨Nat.le_of_ble_eq_true rfl, Nat.le_of_ble_eq_true rfl⟩ ⟨Nat.le_refl _, Nat.le_refl _⟩ rfl rfl (Nat.le_of_ble_eq_true rfl) dX8_takePlaces_43 h (fun r7 D7 h => ?_)
  refine go_aload_n 1 dX8_takePlaces_46 rfl rfl ?_
  refine go_getR 7 f_X8_34 rfl hd.1 (vil_R hd 2 (by decide)) dX8_takePlaces_47 ?_
  refine go_aload_n 0 dX8_takePlaces_50 rfl rfl ?_
  refine go_getR 7 f_X8_34 rfl hc.1 (vil_R hc 2 (by decide)) dX8_takePlaces_51 ?_
  refine go_sV (M := MX8_copyRow) [vR E (d + 3), vR E (c + 3)] [] ms_X8_68 ⟨Nat.le_of_ble_eq_true rfl, Nat.le_of_ble_eq_true rfl⟩ ⟨Nat.le_refl _, Nat.le_refl _⟩ rfl rfl (Nat.le_of_ble_eq_true rfl) dX8_takePlaces_54 h (fun r9 D9 h => ?_)
  refine go_aload_n 1 dX8_takePlaces_57 rfl rfl ?_
  refine go_getR 8 f_X8_37 rfl hd.1 (vil_R hd 3 (by decide)) dX8_takePlaces_58 ?_
  refine go_aload_n 0 dX8_takePlaces_61 rfl rfl ?_
  refine go_getR 8 f_X8_37 rfl hc.1 (vil_R hc 3 (by decide)) dX8_takePlaces_62 ?_
  refine go_sV (M := MX8_copyRow) [vR E (d + 4), vR E (c + 4)] [] ms_X8_68 ⟨Nat.le_of_ble_eq_true rfl, Nat.le_of_ble_eq_true rfl⟩ ⟨Nat.le_refl _, Nat.le_refl _⟩ rfl rfl (Nat.le_of_ble_eq_true rfl) dX8_takePlaces_65 h (fun r11 D11 h => ?_)
  refine go_aload_n 1 dX8_takePlaces_68 rfl rfl ?_
  refine go_getR 9 f_X8_40 rfl hd.1 (vil_R hd 4 (by decide)) dX8_takePlaces_69 ?_
  refine go_aload_n 0 dX8_takePlaces_72 rfl rfl ?_
  refine go_getR 9 f_X8_40 rfl hc.1 (vil_R hc 4 (by decide)) dX8_takePlaces_73 ?_
  refine go_sV (M := MX8_copyRow) [vR E (d + 5), vR E (c + 5)] [] ms_X8_68 ⟨Nat.le_of_ble_eq_true rfl, Nat.le_of_ble_eq_true rfl⟩ ⟨Nat.le_refl _, Nat.le_refl _⟩ rfl rfl (Nat.le_of_ble_eq_true rfl) dX8_takePlaces_76 h (fun r13 D13 h => ?_)
  refine go_aload_n 1 dX8_takePlaces_79 rfl rfl ?_
  refine go_getR 10 f_X8_43 rfl hd.1 (vil_R hd 5 (by decide)) dX8_takePlaces_80 ?_
  refine go_aload_n 0 dX8_takePlaces_83 rfl rfl ?_
  refine go_getR 10 f_X8_43 rfl hc.1 (vil_R hc 5 (by decide)) dX8_takePlaces_84 ?_
  refine go_sV (M := MX8_copyRow) [vR E (d + 6), vR E (c + 6)] [] ms_X8_68 ⟨Nat.le_of_ble_eq_true rfl, Nat.le_of_ble_eq_true rfl⟩ ⟨Nat.le_refl _, Nat.le_refl _⟩ rfl rfl (Nat.le_of_ble_eq_true rfl) dX8_takePlaces_87 h (fun r15 D15 h => ?_)
  refine go_aload_n 1 dX8_takePlaces_90 rfl rfl ?_
  refine go_getR 11 f_X8_46 rfl hd.1 (vil_R hd 6 (by decide)) dX8_takePlaces_91 ?_
  refine go_aload_n 0 dX8_takePlaces_94 rfl rfl ?_
  refine go_getR 11 f_X8_46 rfl hc.1 (vil_R hc 6 (by decide)) dX8_takePlaces_95 ?_
  refine go_sV (M := MX8_copyRow) [vR E (d + 7), vR E (c + 7)] [] ms_X8_68 ⟨Nat.le_of_ble_eq_true rfl, Nat.le_of_ble_eq_true rfl⟩ ⟨Nat.le_refl _, Nat.le_refl _⟩ rfl rfl (Nat.le_of_ble_eq_true rfl) dX8_takePlaces_98 h (fun r17 D17 h => ?_)
  refine go_aload_n 1 dX8_takePlaces_101 rfl rfl ?_
  refine go_getR 12 f_X8_49 rfl hd.1 (vil_R hd 7 (by decide)) dX8_takePlaces_102 ?_
  refine go_aload_n 0 dX8_takePlaces_105 rfl rfl ?_
  refine go_getR 12 f_X8_49 rfl hc.1 (vil_R hc 7 (by decide)) dX8_takePlaces_106 ?_
  refine go_sV (M := MX8_copyRow) [vR E (d + 8), vR E (c + 8)] [] ms_X8_68 ⟨Nat.le_of_ble_eq_true rfl, Nat.le_of_ble_eq_true rfl⟩ ⟨Nat.le_refl _, Nat.le_refl _⟩ rfl rfl (Nat.le_of_ble_eq_true rfl) dX8_takePlaces_109 h (fun r19 D19 h => ?_)
  refine go_aload_n 1 dX8_takePlaces_112 rfl rfl ?_
  refine go_getR 13 f_X8_52 rfl hd.1 (vil_R hd 8 (by decide)) dX8_takePlaces_113 ?_
  refine go_aload_n 0 dX8_takePlaces_116 rfl rfl ?_
  refine go_getR 13 f_X8_52 rfl hc.1 (vil_R hc 8 (by decide)) dX8_takePlaces_117 ?_
  refine go_sV (M := MX8_copyRow) [vR E (d + 9), vR E (c + 9)] [] ms_X8_68 ⟨Nat.le_of_ble_eq_true rfl, Nat.le_of_ble_eq_true rfl⟩ ⟨Nat.le_refl _, Nat.le_refl _⟩ rfl rfl (Nat.le_of_ble_eq_true rfl) dX8_takePlaces_120 h (fun r21 D21 h => ?_)
  refine go_aload_n 1 dX8_takePlaces_123 rfl rfl ?_
  refine go_getR 14 f_X8_55 rfl hd.1 (vil_R hd 9 (by decide)) dX8_takePlaces_124 ?_
  refine go_aload_n 0 dX8_takePlaces_127 rfl rfl ?_
  refine go_getR 14 f_X8_55 rfl hc.1 (vil_R hc 9 (by decide)) dX8_takePlaces_128 ?_
  refine go_sV (M := MX8_copyRow) [vR E (d + 10), vR E (c + 10)] [] ms_X8_68 ⟨Nat.le_of_ble_eq_true rfl, Nat.le_of_ble_eq_true rfl⟩ ⟨Nat.le_refl _, Nat.le_refl _⟩ rfl rfl (Nat.le_of_ble_eq_true rfl) dX8_takePlaces_131 h (fun r23 D23 h => ?_)
  refine go_aload_n 1 dX8_takePlaces_134 rfl rfl ?_
  refine go_getR 15 f_X8_58 rfl hd.1 (vil_R hd 10 (by decide)) dX8_takePlaces_135 ?_
  refine go_aload_n 0 dX8_takePlaces_138 rfl rfl ?_
  refine go_getR 15 f_X8_58 rfl hc.1 (vil_R hc 10 (by decide)) dX8_takePlaces_139 ?_
  refine go_sV (M := MX8_copyRow) [vR E (d + 11), vR E (c + 11)] [] ms_X8_68 ⟨Nat.le_of_ble_eq_true rfl, Nat.le_of_ble_eq_true rfl⟩ ⟨Nat.le_refl _, Nat.le_refl _⟩ rfl rfl (Nat.le_of_ble_eq_true rfl) dX8_takePlaces_142 h (fun r25 D25 h => ?_)
  refine go_aload_n 1 dX8_takePlaces_145 rfl rfl ?_
  refine go_getR 16 f_X8_61 rfl hd.1 (vil_R hd 11 (by decide)) dX8_takePlaces_146 ?_
  refine go_aload_n 0 dX8_takePlaces_149 rfl rfl ?_
  refine go_getR 16 f_X8_61 rfl hc.1 (vil_R hc 11 (by decide)) dX8_takePlaces_150 ?_
  refine go_sV (M := MX8_copyRow) [vR E (d + 12), vR E (c + 12)] [] ms_X8_68 ⟨Nat.le_of_ble_eq_true rfl, Nat.le_of_ble_eq_true rfl⟩ ⟨Nat.le_refl _, Nat.le_refl _⟩ rfl rfl (Nat.le_of_ble_eq_true rfl) dX8_takePlaces_153 h (fun r27 D27 h => ?_)
  exact go_return (Nat.le_refl _) (Nat.le_refl _) rfl dX8_takePlaces_156 h
theorem s_X8_takeAll {l : Launch} {E : Ev} {Q : Int → Sh → Dm → Prop} {G : Sh} {D : Dm} (hL : Lay G) {c : Nat} (hc : isVil G c) {d : Nat} (hd : isVil G d) (h : C0 l E MX8_takePlaces 2 [vR E c, vR E d] G D (fun r2 D2 => Q 0 G (upd2 (upd2 D2 c 3 (D2 d 3)) c 4 ((upd2 D2 c 3 (D2 d 3)) d 4)))) : Ct l E MX8_takeAll 2 0 0 [vR E c, vR E d] G D Q := by
  refine Ct.of (by decide) (Nat.le_of_ble_eq_true rfl) ?_
  show KX8_takeAll l E Q 0 [(0, vR E c), (1, vR E d)] G D
  refine go_aload_n 0 dX8_takeAll_0 rfl rfl ?_
  refine go_aload_n 1 dX8_takeAll_1 rfl rfl ?_
  refine go_vV (M := MX8_takePlaces) [vR E d] [] mv_X8_64 hc.1 rfl (by decide) ⟨Nat.le_of_ble_eq_true rfl, Nat.le_of_ble_eq_true rfl⟩ ⟨Nat.le_refl _, Nat.le_refl _⟩ rfl rfl (Nat.le_of_ble_eq_true rfl) dX8_takeAll_2 h (fun r2 D2 h => ?_)
  refine go_aload_n 0 dX8_takeAll_5 rfl rfl ?_
  refine go_aload_n 1 dX8_takeAll_6 rfl rfl ?_
  refine go_getI 3 (i := 3) f_X8_21 rfl hd.1 dX8_takeAll_7 ?_
  refine go_rngI (c := d) (i := 3) hd.1 rfl (fun (q4 : -2147483648 ≤ (D2 d 3) ∧ (D2 d 3) < 2147483648) => ?_)
  refine go_putI 3 (i := 3) q4 f_X8_21 rfl hc.1 dX8_takeAll_10 ?_
  refine go_aload_n 0 dX8_takeAll_13 rfl rfl ?_
  refine go_aload_n 1 dX8_takeAll_14 rfl rfl ?_
  refine go_getI 4 (i := 4) f_X8_24 rfl hd.1 dX8_takeAll_15 ?_
  refine go_rngI (c := d) (i := 4) hd.1 rfl (fun (q5 : -2147483648 ≤ ((upd2 D2 c 3 (D2 d 3)) d 4) ∧ ((upd2 D2 c 3 (D2 d 3)) d 4) < 2147483648) => ?_)
  refine go_putI 4 (i := 4) q5 f_X8_24 rfl hc.1 dX8_takeAll_18 ?_
  exact go_return (Nat.le_refl _) (Nat.le_refl _) rfl dX8_takeAll_21 h
theorem s_X8_hasStrip {l : Launch} {E : Ev} {Q : Int → Sh → Dm → Prop} {G : Sh} {D : Dm} (hL : Lay G) {v1 : Int}  (h : ((-2147483648 ≤ v1 ∧ v1 < 2147483648)) ∧ ((v1 < 0 → Q 0 G D) ∧ (0 ≤ v1 → (((D 1 0) ≤ v1 → Q 0 G D) ∧ (v1 < (D 1 0) → Q 1 G D))))) : Ct l E MX8_hasStrip 0 0 0 [vR E 1, vI v1] G D Q := by
  refine Ct.of (by decide) (Nat.le_of_ble_eq_true rfl) ?_
  show KX8_hasStrip l E Q 0 [(0, vR E 1), (1, vI v1)] G D
  obtain ⟨s1, h⟩ := h
  refine go_iload_n 1 dX8_hasStrip_0 rfl rfl ?_
  refine go_if_lt 16 dX8_hasStrip_1 (by decide) s1 (fun c2 => ?_) (fun c2 => ?_)
  · have h := h.1 c2
    refine go_iconst dX8_hasStrip_16 ?_
    exact go_zreturn (Nat.le_refl _) (Nat.le_refl _) rfl (by decide) dX8_hasStrip_17 h
  · have h := h.2 c2
    refine go_iload_n 1 dX8_hasStrip_4 rfl rfl ?_
    refine go_aload_n 0 dX8_hasStrip_5 rfl rfl ?_
    refine go_getI 0 (i := 0) f_X8_9 rfl (hL.1 1 _ rfl) dX8_hasStrip_6 ?_
    refine go_rngI (c := 1) (i := 0) (hL.1 1 _ rfl) rfl (fun (q5 : -2147483648 ≤ (D 1 0) ∧ (D 1 0) < 2147483648) => ?_)
    refine go_icmp_ge 16 dX8_hasStrip_9 (by decide) s1 q5 (fun c6 => ?_) (fun c6 => ?_)
    · have h := h.1 c6
      refine go_iconst dX8_hasStrip_16 ?_
      exact go_zreturn (Nat.le_refl _) (Nat.le_refl _) rfl (by decide) dX8_hasStrip_17 h
    · have h := h.2 c6
      refine go_iconst dX8_hasStrip_12 ?_
      refine go_goto 17 dX8_hasStrip_13 (by decide) ?_
      exact go_zreturn (Nat.le_refl _) (Nat.le_refl _) rfl (by decide) dX8_hasStrip_17 h
theorem p_X8_hasStrip {l : Launch} {E : Ev} {G : Sh} {D : Dm} (hL : Lay G) {v1 : Int}  (q0 : -2147483648 ≤ v1 ∧ v1 < 2147483648) : C0 l E MX8_hasStrip 0 [vR E 1, vI v1] G D (fun r D' => r = (if ((0 ≤ v1) ∧ (v1 < (D 1 0))) then 1 else 0) ∧ D' = D) := by
  refine s_X8_hasStrip hL ?_
  refine ⟨q0, ?_⟩
  refine ⟨fun hc => ?_, fun hc => ?_⟩
  · refine ⟨rfl, ?_, rfl⟩
    (split <;> first | rfl | (exfalso; simp_all; done) | omega | simp_all)
  · refine ⟨fun hc => ?_, fun hc => ?_⟩
    · refine ⟨rfl, ?_, rfl⟩
      (split <;> first | rfl | (exfalso; simp_all; done) | omega | simp_all)
    · refine ⟨rfl, ?_, rfl⟩
      (split <;> first | rfl | (exfalso; simp_all; done) | omega | simp_all)
theorem s_X8_hasHarm {l : Launch} {E : Ev} {Q : Int → Sh → Dm → Prop} {G : Sh} {D : Dm} (hL : Lay G) {v1 : Int}  (h : ((-2147483648 ≤ v1 ∧ v1 < 2147483648)) ∧ ((v1 < 0 → Q 0 G D) ∧ (0 ≤ v1 → (((D 1 1) ≤ v1 → Q 0 G D) ∧ (v1 < (D 1 1) → Q 1 G D))))) : Ct l E MX8_hasHarm 0 0 0 [vR E 1, vI v1] G D Q := by
  refine Ct.of (by decide) (Nat.le_of_ble_eq_true rfl) ?_
  show KX8_hasHarm l E Q 0 [(0, vR E 1), (1, vI v1)] G D
  obtain ⟨s1, h⟩ := h
  refine go_iload_n 1 dX8_hasHarm_0 rfl rfl ?_
  refine go_if_lt 16 dX8_hasHarm_1 (by decide) s1 (fun c2 => ?_) (fun c2 => ?_)
  · have h := h.1 c2
    refine go_iconst dX8_hasHarm_16 ?_
    exact go_zreturn (Nat.le_refl _) (Nat.le_refl _) rfl (by decide) dX8_hasHarm_17 h
  · have h := h.2 c2
    refine go_iload_n 1 dX8_hasHarm_4 rfl rfl ?_
    refine go_aload_n 0 dX8_hasHarm_5 rfl rfl ?_
    refine go_getI 1 (i := 1) f_X8_15 rfl (hL.1 1 _ rfl) dX8_hasHarm_6 ?_
    refine go_rngI (c := 1) (i := 1) (hL.1 1 _ rfl) rfl (fun (q5 : -2147483648 ≤ (D 1 1) ∧ (D 1 1) < 2147483648) => ?_)
    refine go_icmp_ge 16 dX8_hasHarm_9 (by decide) s1 q5 (fun c6 => ?_) (fun c6 => ?_)
    · have h := h.1 c6
      refine go_iconst dX8_hasHarm_16 ?_
      exact go_zreturn (Nat.le_refl _) (Nat.le_refl _) rfl (by decide) dX8_hasHarm_17 h
    · have h := h.2 c6
      refine go_iconst dX8_hasHarm_12 ?_
      refine go_goto 17 dX8_hasHarm_13 (by decide) ?_
      exact go_zreturn (Nat.le_refl _) (Nat.le_refl _) rfl (by decide) dX8_hasHarm_17 h
theorem p_X8_hasHarm {l : Launch} {E : Ev} {G : Sh} {D : Dm} (hL : Lay G) {v1 : Int}  (q0 : -2147483648 ≤ v1 ∧ v1 < 2147483648) : C0 l E MX8_hasHarm 0 [vR E 1, vI v1] G D (fun r D' => r = (if ((0 ≤ v1) ∧ (v1 < (D 1 1))) then 1 else 0) ∧ D' = D) := by
  refine s_X8_hasHarm hL ?_
  refine ⟨q0, ?_⟩
  refine ⟨fun hc => ?_, fun hc => ?_⟩
  · refine ⟨rfl, ?_, rfl⟩
    (split <;> first | rfl | (exfalso; simp_all; done) | omega | simp_all)
  · refine ⟨fun hc => ?_, fun hc => ?_⟩
    · refine ⟨rfl, ?_, rfl⟩
      (split <;> first | rfl | (exfalso; simp_all; done) | omega | simp_all)
    · refine ⟨rfl, ?_, rfl⟩
      (split <;> first | rfl | (exfalso; simp_all; done) | omega | simp_all)
theorem s_X8_hasFamily {l : Launch} {E : Ev} {Q : Int → Sh → Dm → Prop} {G : Sh} {D : Dm} (hL : Lay G) {v1 : Int}  (h : ((-2147483648 ≤ v1 ∧ v1 < 2147483648)) ∧ ((v1 < 0 → Q 0 G D) ∧ (0 ≤ v1 → (((D 1 2) ≤ v1 → Q 0 G D) ∧ (v1 < (D 1 2) → Q 1 G D))))) : Ct l E MX8_hasFamily 0 0 0 [vR E 1, vI v1] G D Q := by
  refine Ct.of (by decide) (Nat.le_of_ble_eq_true rfl) ?_
  show KX8_hasFamily l E Q 0 [(0, vR E 1), (1, vI v1)] G D
  obtain ⟨s1, h⟩ := h
  refine go_iload_n 1 dX8_hasFamily_0 rfl rfl ?_
  refine go_if_lt 16 dX8_hasFamily_1 (by decide) s1 (fun c2 => ?_) (fun c2 => ?_)
  · have h := h.1 c2
    refine go_iconst dX8_hasFamily_16 ?_
    exact go_zreturn (Nat.le_refl _) (Nat.le_refl _) rfl (by decide) dX8_hasFamily_17 h
  · have h := h.2 c2
    refine go_iload_n 1 dX8_hasFamily_4 rfl rfl ?_
    refine go_aload_n 0 dX8_hasFamily_5 rfl rfl ?_
    refine go_getI 2 (i := 2) f_X8_18 rfl (hL.1 1 _ rfl) dX8_hasFamily_6 ?_
    refine go_rngI (c := 1) (i := 2) (hL.1 1 _ rfl) rfl (fun (q5 : -2147483648 ≤ (D 1 2) ∧ (D 1 2) < 2147483648) => ?_)
    refine go_icmp_ge 16 dX8_hasFamily_9 (by decide) s1 q5 (fun c6 => ?_) (fun c6 => ?_)
    · have h := h.1 c6
      refine go_iconst dX8_hasFamily_16 ?_
      exact go_zreturn (Nat.le_refl _) (Nat.le_refl _) rfl (by decide) dX8_hasFamily_17 h
    · have h := h.2 c6
      refine go_iconst dX8_hasFamily_12 ?_
      refine go_goto 17 dX8_hasFamily_13 (by decide) ?_
      exact go_zreturn (Nat.le_refl _) (Nat.le_refl _) rfl (by decide) dX8_hasFamily_17 h
theorem p_X8_hasFamily {l : Launch} {E : Ev} {G : Sh} {D : Dm} (hL : Lay G) {v1 : Int}  (q0 : -2147483648 ≤ v1 ∧ v1 < 2147483648) : C0 l E MX8_hasFamily 0 [vR E 1, vI v1] G D (fun r D' => r = (if ((0 ≤ v1) ∧ (v1 < (D 1 2))) then 1 else 0) ∧ D' = D) := by
  refine s_X8_hasFamily hL ?_
  refine ⟨q0, ?_⟩
  refine ⟨fun hc => ?_, fun hc => ?_⟩
  · refine ⟨rfl, ?_, rfl⟩
    (split <;> first | rfl | (exfalso; simp_all; done) | omega | simp_all)
  · refine ⟨fun hc => ?_, fun hc => ?_⟩
    · refine ⟨rfl, ?_, rfl⟩
      (split <;> first | rfl | (exfalso; simp_all; done) | omega | simp_all)
    · refine ⟨rfl, ?_, rfl⟩
      (split <;> first | rfl | (exfalso; simp_all; done) | omega | simp_all)
theorem s_X8_hasFamilyOrNone {l : Launch} {E : Ev} {Q : Int → Sh → Dm → Prop} {G : Sh} {D : Dm} (hL : Lay G) {v1 : Int}  (h : ((-2147483648 ≤ v1 ∧ v1 < 2147483648)) ∧ ((v1 = (-1) → Q 1 G D) ∧ (v1 ≠ (-1) → ((¬ ((0 ≤ v1) ∧ (v1 < (D 1 2))) → Q 0 G D) ∧ (((0 ≤ v1) ∧ (v1 < (D 1 2))) → Q 1 G D))))) : Ct l E MX8_hasFamilyOrNone 0 0 0 [vR E 1, vI v1] G D Q := by
  refine Ct.of (by decide) (Nat.le_of_ble_eq_true rfl) ?_
  show KX8_hasFamilyOrNone l E Q 0 [(0, vR E 1), (1, vI v1)] G D
  obtain ⟨s1, h⟩ := h
  refine go_iload_n 1 dX8_hasFamilyOrNone_0 rfl rfl ?_
  refine go_iconst dX8_hasFamilyOrNone_1 ?_
  refine go_icmp_eq 13 dX8_hasFamilyOrNone_2 (by decide) s1 (by decide) (fun c2 => ?_) (fun c2 => ?_)
  · have h := h.1 c2
    refine go_iconst dX8_hasFamilyOrNone_13 ?_
    refine go_goto 18 dX8_hasFamilyOrNone_14 (by decide) ?_
    exact go_zreturn (Nat.le_refl _) (Nat.le_refl _) rfl (by decide) dX8_hasFamilyOrNone_18 h
  · have h := h.2 c2
    refine go_aload_n 0 dX8_hasFamilyOrNone_5 rfl rfl ?_
    refine go_iload_n 1 dX8_hasFamilyOrNone_6 rfl rfl ?_
    refine go_vIp (M := MX8_hasFamily) [vI v1] [] mv_X8_84 (hL.1 1 _ rfl) rfl (by decide) ⟨Nat.le_of_ble_eq_true rfl, Nat.le_of_ble_eq_true rfl⟩ ⟨Nat.le_refl _, Nat.le_refl _⟩ rfl rfl (Nat.le_of_ble_eq_true rfl) dX8_hasFamilyOrNone_7 (p_X8_hasFamily hL s1) ?_
    refine go_ifb_eq 17 dX8_hasFamilyOrNone_10 (by decide) (fun c6 => ?_) (fun c6 => ?_)
    · have h := h.1 c6
      refine go_iconst dX8_hasFamilyOrNone_17 ?_
      exact go_zreturn (Nat.le_refl _) (Nat.le_refl _) rfl (by decide) dX8_hasFamilyOrNone_18 h
    · have h := h.2 c6
      refine go_iconst dX8_hasFamilyOrNone_13 ?_
      refine go_goto 18 dX8_hasFamilyOrNone_14 (by decide) ?_
      exact go_zreturn (Nat.le_refl _) (Nat.le_refl _) rfl (by decide) dX8_hasFamilyOrNone_18 h
theorem p_X8_hasFamilyOrNone {l : Launch} {E : Ev} {G : Sh} {D : Dm} (hL : Lay G) {v1 : Int}  (q0 : -2147483648 ≤ v1 ∧ v1 < 2147483648) : C0 l E MX8_hasFamilyOrNone 0 [vR E 1, vI v1] G D (fun r D' => r = (if ((v1 = (-1)) ∨ ((0 ≤ v1) ∧ (v1 < (D 1 2)))) then 1 else 0) ∧ D' = D) := by
  refine s_X8_hasFamilyOrNone hL ?_
  refine ⟨q0, ?_⟩
  refine ⟨fun hc => ?_, fun hc => ?_⟩
  · refine ⟨rfl, ?_, rfl⟩
    (split <;> first | rfl | (exfalso; simp_all; done) | omega | simp_all)
  · refine ⟨fun hc => ?_, fun hc => ?_⟩
    · refine ⟨rfl, ?_, rfl⟩
      (split <;> first | rfl | (exfalso; simp_all; done) | omega | simp_all)
    · refine ⟨rfl, ?_, rfl⟩
      (split <;> first | rfl | (exfalso; simp_all; done) | omega | simp_all)
theorem s_X8_hasHolding {l : Launch} {E : Ev} {Q : Int → Sh → Dm → Prop} {G : Sh} {D : Dm} (hL : Lay G) {v1 v2 : Int}  (h : ((-2147483648 ≤ v1 ∧ v1 < 2147483648)) ∧ ((¬ ((0 ≤ v1) ∧ (v1 < (D 1 2))) → Q 0 G D) ∧ (((0 ≤ v1) ∧ (v1 < (D 1 2))) → ((-2147483648 ≤ v2 ∧ v2 < 2147483648)) ∧ ((v2 < 0 → Q 0 G D) ∧ (0 ≤ v2 → (((iSl 1 (D 1 0)) ≤ v2 → Q 0 G D) ∧ (v2 < (iSl 1 (D 1 0)) → Q 1 G D))))))) : Ct l E MX8_hasHolding 0 0 0 [vR E 1, vI v1, vI v2] G D Q := by
  refine Ct.of (by decide) (Nat.le_of_ble_eq_true rfl) ?_
  show KX8_hasHolding l E Q 0 [(0, vR E 1), (1, vI v1), (2, vI v2)] G D
  obtain ⟨s1, h⟩ := h
  refine go_aload_n 0 dX8_hasHolding_0 rfl rfl ?_
  refine go_iload_n 1 dX8_hasHolding_1 rfl rfl ?_
  refine go_vIp (M := MX8_hasFamily) [vI v1] [] mv_X8_84 (hL.1 1 _ rfl) rfl (by decide) ⟨Nat.le_of_ble_eq_true rfl, Nat.le_of_ble_eq_true rfl⟩ ⟨Nat.le_refl _, Nat.le_refl _⟩ rfl rfl (Nat.le_of_ble_eq_true rfl) dX8_hasHolding_2 (p_X8_hasFamily hL s1) ?_
  refine go_ifb_eq 24 dX8_hasHolding_5 (by decide) (fun c3 => ?_) (fun c3 => ?_)
  · have h := h.1 c3
    refine go_iconst dX8_hasHolding_24 ?_
    exact go_zreturn (Nat.le_refl _) (Nat.le_refl _) rfl (by decide) dX8_hasHolding_25 h
  · have h := h.2 c3
    obtain ⟨s5, h⟩ := h
    refine go_iload_n 2 dX8_hasHolding_8 rfl rfl ?_
    refine go_if_lt 24 dX8_hasHolding_9 (by decide) s5 (fun c6 => ?_) (fun c6 => ?_)
    · have h := h.1 c6
      refine go_iconst dX8_hasHolding_24 ?_
      exact go_zreturn (Nat.le_refl _) (Nat.le_refl _) rfl (by decide) dX8_hasHolding_25 h
    · have h := h.2 c6
      refine go_iload_n 2 dX8_hasHolding_12 rfl rfl ?_
      refine go_aload_n 0 dX8_hasHolding_13 rfl rfl ?_
      refine go_vIp (M := MX8_sets) [] [vI v2] mv_X8_92 (hL.1 1 _ rfl) rfl (by decide) ⟨Nat.le_of_ble_eq_true rfl, Nat.le_of_ble_eq_true rfl⟩ ⟨Nat.le_refl _, Nat.le_refl _⟩ rfl rfl (Nat.le_of_ble_eq_true rfl) dX8_hasHolding_14 (p_X8_sets hL) ?_
      refine go_icmp_ge 24 dX8_hasHolding_17 (by decide) s5 (r32 _) (fun c10 => ?_) (fun c10 => ?_)
      · have h := h.1 c10
        refine go_iconst dX8_hasHolding_24 ?_
        exact go_zreturn (Nat.le_refl _) (Nat.le_refl _) rfl (by decide) dX8_hasHolding_25 h
      · have h := h.2 c10
        refine go_iconst dX8_hasHolding_20 ?_
        refine go_goto 25 dX8_hasHolding_21 (by decide) ?_
        exact go_zreturn (Nat.le_refl _) (Nat.le_refl _) rfl (by decide) dX8_hasHolding_25 h
theorem p_X8_hasHolding {l : Launch} {E : Ev} {G : Sh} {D : Dm} (hL : Lay G) {v1 v2 : Int}  (q0 : -2147483648 ≤ v1 ∧ v1 < 2147483648) (q1 : -2147483648 ≤ v2 ∧ v2 < 2147483648) : C0 l E MX8_hasHolding 0 [vR E 1, vI v1, vI v2] G D (fun r D' => r = (if (((0 ≤ v1) ∧ (v1 < (D 1 2))) ∧ ((0 ≤ v2) ∧ (v2 < (iSl 1 (D 1 0))))) then 1 else 0) ∧ D' = D) := by
  refine s_X8_hasHolding hL ?_
  refine ⟨q0, ?_⟩
  refine ⟨fun hc => ?_, fun hc => ?_⟩
  · refine ⟨rfl, ?_, rfl⟩
    (split <;> first | rfl | (exfalso; simp_all; done) | omega | simp_all)
  · refine ⟨q1, ?_⟩
    refine ⟨fun hc => ?_, fun hc => ?_⟩
    · refine ⟨rfl, ?_, rfl⟩
      (split <;> first | rfl | (exfalso; simp_all; done) | omega | simp_all)
    · refine ⟨fun hc => ?_, fun hc => ?_⟩
      · refine ⟨rfl, ?_, rfl⟩
        (split <;> first | rfl | (exfalso; simp_all; done) | omega | simp_all)
      · refine ⟨rfl, ?_, rfl⟩
        (split <;> first | rfl | (exfalso; simp_all; done) | omega | simp_all)
