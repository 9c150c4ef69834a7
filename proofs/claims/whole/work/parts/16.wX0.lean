theorem s_X0_fillOwn {l : Launch} {E : Ev} {Q : Int → Sh → Dm → Prop} {G : Sh} {D : Dm} (hL : Lay G) {v1 v2 v3 v4 : Int}  (h : C0 l E MX8_heldBy 0 [vR E 1, vI v1] G D (fun r2 D2 => C0 l E MX5_fillNets 2 [vR E 42, vI v1, vI r2, vI 0] G D2 (fun r4 D4 => KX0_fillOwn l E Q 20 [(0, vR E 53), (1, vI v1), (2, vI v2), (3, vI v3), (4, vI v4), (5, vI 0)] G D4))) : Ct l E MX0_fillOwn 2 0 0 [vR E 53, vI v1, vI v2, vI v3, vI v4] G D Q := by
  refine Ct.of (by decide) (Nat.le_of_ble_eq_true rfl) ?_
  show KX0_fillOwn l E Q 0 [(0, vR E 53), (1, vI v1), (2, vI v2), (3, vI v3), (4, vI v4)] G D
  refine go_aload_n 0 dX0_fillOwn_0 rfl rfl ?_
  refine go_getR 1 f_X0_22 rfl (hL.1 53 _ rfl) (hL.2.1 53 1 _ rfl (by decide)) dX0_fillOwn_1 ?_
  refine go_iload_n 1 dX0_fillOwn_4 rfl rfl ?_
  refine go_aload_n 0 dX0_fillOwn_5 rfl rfl ?_
  refine go_getR 0 f_X0_18 rfl (hL.1 53 _ rfl) (hL.2.1 53 0 _ rfl (by decide)) dX0_fillOwn_6 ?_
  refine go_iload_n 1 dX0_fillOwn_9 rfl rfl ?_
  refine go_vI (M := MX8_heldBy) [vI v1] [vI v1, vR E 42] mv_X0_26 (hL.1 1 _ rfl) rfl (by decide) ⟨Nat.le_of_ble_eq_true rfl, Nat.le_of_ble_eq_true rfl⟩ ⟨Nat.le_refl _, Nat.le_refl _⟩ rfl rfl (Nat.le_of_ble_eq_true rfl) dX0_fillOwn_10 h (fun r2 D2 h => ?_)
  refine go_iconst dX0_fillOwn_13 ?_
  refine go_vV (M := MX5_fillNets) [vI v1, vI r2, vI 0] [] mv_X0_32 (hL.1 42 _ rfl) rfl (by decide) ⟨Nat.le_of_ble_eq_true rfl, Nat.le_of_ble_eq_true rfl⟩ ⟨Nat.le_refl _, Nat.le_refl _⟩ rfl rfl (Nat.le_of_ble_eq_true rfl) dX0_fillOwn_14 h (fun r4 D4 h => ?_)
  refine go_iconst dX0_fillOwn_17 ?_
  refine go_istore [1, 2, 3, 4, 5, 0] (L' := [(0, vR E 53), (1, vI v1), (2, vI v2), (3, vI v3), (4, vI v4), (5, vI 0)]) dX0_fillOwn_18 (by decide) rfl ?_
  exact h
theorem s_X0_fillOwn_20 {l : Launch} {E : Ev} {Q : Int → Sh → Dm → Prop} {G : Sh} {D : Dm} (hL : Lay G) {v1 v2 v3 v4 v5 : Int}  (h : ((-2147483648 ≤ v5 ∧ v5 < 2147483648)) ∧ (((iSl 1 (D 1 1)) ≤ v5 → Q 0 G D) ∧ (v5 < (iSl 1 (D 1 1)) → ((0 ≤ v5 ∧ v5 < 64) ∧ (-2147483648 ≤ v2 ∧ v2 < 2147483648)) ∧ ((v2 = (-1) → KX0_fillOwn l E Q 20 [(0, vR E 53), (1, vI v1), (2, vI v2), (3, vI v3), (4, vI v4), (5, vI (v5 + 1))] G (upd2 D 54 v5 (D 44 v5))) ∧ (v2 ≠ (-1) → ((-2147483648 ≤ ((D 44 v5) - v3) ∧ ((D 44 v5) - v3) < 2147483648) ∧ (-2147483648 ≤ (max 0 ((D 44 v5) - v3)) ∧ (max 0 ((D 44 v5) - v3)) < 2147483648)) ∧ (((iA (iSr v5 v2) 1) = 0 → ((-2147483648 ≤ ((max 0 ((D 44 v5) - v3)) + 0) ∧ ((max 0 ((D 44 v5) - v3)) + 0) < 2147483648)) ∧ KX0_fillOwn l E Q 20 [(0, vR E 53), (1, vI v1), (2, vI v2), (3, vI v3), (4, vI v4), (5, vI (v5 + 1))] G (upd2 (upd2 (upd2 D 54 v5 (D 44 v5)) 54 v5 (max 0 ((D 44 v5) - v3))) 54 v5 ((max 0 ((D 44 v5) - v3)) + 0))) ∧ ((iA (iSr v5 v2) 1) ≠ 0 → ((-2147483648 ≤ ((max 0 ((D 44 v5) - v3)) + v4) ∧ ((max 0 ((D 44 v5) - v3)) + v4) < 2147483648)) ∧ KX0_fillOwn l E Q 20 [(0, vR E 53), (1, vI v1), (2, vI v2), (3, vI v3), (4, vI v4), (5, vI (v5 + 1))] G (upd2 (upd2 (upd2 D 54 v5 (D 44 v5)) 54 v5 (max 0 ((D 44 v5) - v3))) 54 v5 ((max 0 ((D 44 v5) - v3)) + v4))))))))) : KX0_fillOwn l E Q 20 [(0, vR E 53), (1, vI v1), (2, vI v2), (3, vI v3), (4, vI v4), (5, vI v5)] G D := by
  obtain ⟨s1, h⟩ := h
  refine go_iload 5 dX0_fillOwn_20 rfl ?_
  refine go_aload_n 0 dX0_fillOwn_22 rfl rfl ?_
  refine go_getR 0 f_X0_18 rfl (hL.1 53 _ rfl) (hL.2.1 53 0 _ rfl (by decide)) dX0_fillOwn_23 ?_
  refine go_vIp (M := MX8_lots) [] [vI v5] mv_X0_38 (hL.1 1 _ rfl) rfl (by decide) ⟨Nat.le_of_ble_eq_true rfl, Nat.le_of_ble_eq_true rfl⟩ ⟨Nat.le_refl _, Nat.le_refl _⟩ rfl rfl (Nat.le_of_ble_eq_true rfl) dX0_fillOwn_26 (p_X8_lots hL) ?_
  refine go_icmp_ge 105 dX0_fillOwn_29 (by decide) s1 (r32 _) (fun c3 => ?_) (fun c3 => ?_)
  · have h := h.1 c3
    exact go_return (Nat.le_refl _) (Nat.le_refl _) rfl dX0_fillOwn_105 h
  · have h := h.2 c3
    obtain ⟨s5, h⟩ := h
    refine go_aload_n 0 dX0_fillOwn_32 rfl rfl ?_
    refine go_getR 2 f_X0_9 rfl (hL.1 53 _ rfl) (hL.2.1 53 2 _ rfl (by decide)) dX0_fillOwn_33 ?_
    refine go_iload 5 dX0_fillOwn_36 rfl ?_
    refine go_aload_n 0 dX0_fillOwn_38 rfl rfl ?_
    refine go_getR 1 f_X0_22 rfl (hL.1 53 _ rfl) (hL.2.1 53 1 _ rfl (by decide)) dX0_fillOwn_39 ?_
    refine go_getR 2 f_X0_42 rfl (hL.1 42 _ rfl) (hL.2.1 42 2 _ rfl (by decide)) dX0_fillOwn_42 ?_
    refine go_iload 5 dX0_fillOwn_45 rfl ?_
    refine go_iaload (hL.1 44 _ rfl) (b := 64) rfl (by decide) s5.1 dX0_fillOwn_47 ?_
    refine go_rngI (c := 44) (i := v5) (hL.1 44 _ rfl) rfl (fun (q6 : -2147483648 ≤ (D 44 v5) ∧ (D 44 v5) < 2147483648) => ?_)
    refine go_iastore (hL.1 54 _ rfl) (b := 64) rfl (by decide) s5.1 q6 dX0_fillOwn_48 ?_
    refine go_iload_n 2 dX0_fillOwn_49 rfl rfl ?_
    refine go_iconst dX0_fillOwn_50 ?_
    refine go_icmp_eq 99 dX0_fillOwn_51 (by decide) s5.2 (by decide) (fun c7 => ?_) (fun c7 => ?_)
    · have h := h.1 c7
      refine go_iinc 5 [1, 2, 3, 4, 5, 0] (L' := [(0, vR E 53), (1, vI v1), (2, vI v2), (3, vI v3), (4, vI v4), (5, vI (v5 + 1))]) dX0_fillOwn_99 (by decide) rfl rfl ?_
      refine go_goto 20 dX0_fillOwn_102 (by decide) ?_
      exact h
    · have h := h.2 c7
      obtain ⟨s9, h⟩ := h
      refine go_aload_n 0 dX0_fillOwn_54 rfl rfl ?_
      refine go_getR 2 f_X0_9 rfl (hL.1 53 _ rfl) (hL.2.1 53 2 _ rfl (by decide)) dX0_fillOwn_55 ?_
      refine go_iload 5 dX0_fillOwn_58 rfl ?_
      refine go_iconst dX0_fillOwn_60 ?_
      refine go_aload_n 0 dX0_fillOwn_61 rfl rfl ?_
      refine go_getR 2 f_X0_9 rfl (hL.1 53 _ rfl) (hL.2.1 53 2 _ rfl (by decide)) dX0_fillOwn_62 ?_
      refine go_iload 5 dX0_fillOwn_65 rfl ?_
      refine go_iaload (hL.1 54 _ rfl) (b := 64) rfl (by decide) s5.1 dX0_fillOwn_67 ?_
      refine go_eqI (y := (D 44 v5)) (by first | exact upd2_same _ _ _ _ | simp [upd2]) ?_
      refine go_iload_n 3 dX0_fillOwn_68 rfl rfl ?_
      refine go_isub dX0_fillOwn_69 ?_
      refine go_mmax ma_X0_45 (by decide) s9.1 ⟨by decide, Nat.le_of_ble_eq_true rfl⟩ ⟨Nat.le_refl _, Nat.le_refl _⟩ dX0_fillOwn_70 ?_
      refine go_iastore (hL.1 54 _ rfl) (b := 64) rfl (by decide) s5.1 s9.2 dX0_fillOwn_73 ?_
      refine go_aload_n 0 dX0_fillOwn_74 rfl rfl ?_
      refine go_getR 2 f_X0_9 rfl (hL.1 53 _ rfl) (hL.2.1 53 2 _ rfl (by decide)) dX0_fillOwn_75 ?_
      refine go_iload 5 dX0_fillOwn_78 rfl ?_
      refine go_dup2 rfl rfl dX0_fillOwn_80 ?_
      refine go_iaload (hL.1 54 _ rfl) (b := 64) rfl (by decide) s5.1 dX0_fillOwn_81 ?_
      refine go_eqI (y := (max 0 ((D 44 v5) - v3))) (by first | exact upd2_same _ _ _ _ | simp [upd2]) ?_
      refine go_iload 5 dX0_fillOwn_82 rfl ?_
      refine go_iload_n 2 dX0_fillOwn_84 rfl rfl ?_
      refine go_ishr dX0_fillOwn_85 ?_
      refine go_iconst dX0_fillOwn_86 ?_
      refine go_iand dX0_fillOwn_87 ?_
      refine go_if_eq 96 dX0_fillOwn_88 (by decide) (r32 _) (fun c10 => ?_) (fun c10 => ?_)
      · have h := h.1 c10
        obtain ⟨s11, h⟩ := h
        refine go_iconst dX0_fillOwn_96 ?_
        refine go_iadd dX0_fillOwn_97 ?_
        refine go_iastore (hL.1 54 _ rfl) (b := 64) rfl (by decide) s5.1 s11 dX0_fillOwn_98 ?_
        refine go_iinc 5 [1, 2, 3, 4, 5, 0] (L' := [(0, vR E 53), (1, vI v1), (2, vI v2), (3, vI v3), (4, vI v4), (5, vI (v5 + 1))]) dX0_fillOwn_99 (by decide) rfl rfl ?_
        refine go_goto 20 dX0_fillOwn_102 (by decide) ?_
        exact h
      · have h := h.2 c10
        obtain ⟨s12, h⟩ := h
        refine go_iload 4 dX0_fillOwn_91 rfl ?_
        refine go_goto 97 dX0_fillOwn_93 (by decide) ?_
        refine go_iadd dX0_fillOwn_97 ?_
        refine go_iastore (hL.1 54 _ rfl) (b := 64) rfl (by decide) s5.1 s12 dX0_fillOwn_98 ?_
        refine go_iinc 5 [1, 2, 3, 4, 5, 0] (L' := [(0, vR E 53), (1, vI v1), (2, vI v2), (3, vI v3), (4, vI v4), (5, vI (v5 + 1))]) dX0_fillOwn_99 (by decide) rfl rfl ?_
        refine go_goto 20 dX0_fillOwn_102 (by decide) ?_
        exact h
theorem s_X0_fillGifts {l : Launch} {E : Ev} {Q : Int → Sh → Dm → Prop} {G : Sh} {D : Dm} (hL : Lay G) {v1 : Int}  (h : ((-2147483648 ≤ v1 ∧ v1 < 2147483648)) ∧ ((v1 = (-1) → KX0_fillGifts l E Q 24 [(0, vR E 53), (1, vI v1), (2, vI 0)] G D) ∧ (v1 ≠ (-1) → C0 l E MX8_heldBy 0 [vR E 1, vI v1] G D (fun r5 D5 => C0 l E MX5_fillNets 2 [vR E 42, vI v1, vI r5, vI 0] G D5 (fun r7 D7 => KX0_fillGifts l E Q 24 [(0, vR E 53), (1, vI v1), (2, vI 0)] G D7))))) : Ct l E MX0_fillGifts 2 0 0 [vR E 53, vI v1] G D Q := by
  refine Ct.of (by decide) (Nat.le_of_ble_eq_true rfl) ?_
  show KX0_fillGifts l E Q 0 [(0, vR E 53), (1, vI v1)] G D
  obtain ⟨s1, h⟩ := h
  refine go_iload_n 1 dX0_fillGifts_0 rfl rfl ?_
  refine go_iconst dX0_fillGifts_1 ?_
  refine go_icmp_eq 22 dX0_fillGifts_2 (by decide) s1 (by decide) (fun c2 => ?_) (fun c2 => ?_)
  · have h := h.1 c2
    refine go_iconst dX0_fillGifts_22 ?_
    refine go_istore_n [1, 2, 0] (L' := [(0, vR E 53), (1, vI v1), (2, vI 0)]) dX0_fillGifts_23 rfl (by decide) rfl ?_
    exact h
  · have h := h.2 c2
    refine go_aload_n 0 dX0_fillGifts_5 rfl rfl ?_
    refine go_getR 1 f_X0_22 rfl (hL.1 53 _ rfl) (hL.2.1 53 1 _ rfl (by decide)) dX0_fillGifts_6 ?_
    refine go_iload_n 1 dX0_fillGifts_9 rfl rfl ?_
    refine go_aload_n 0 dX0_fillGifts_10 rfl rfl ?_
    refine go_getR 0 f_X0_18 rfl (hL.1 53 _ rfl) (hL.2.1 53 0 _ rfl (by decide)) dX0_fillGifts_11 ?_
    refine go_iload_n 1 dX0_fillGifts_14 rfl rfl ?_
    refine go_vI (M := MX8_heldBy) [vI v1] [vI v1, vR E 42] mv_X0_26 (hL.1 1 _ rfl) rfl (by decide) ⟨Nat.le_of_ble_eq_true rfl, Nat.le_of_ble_eq_true rfl⟩ ⟨Nat.le_refl _, Nat.le_refl _⟩ rfl rfl (Nat.le_of_ble_eq_true rfl) dX0_fillGifts_15 h (fun r5 D5 h => ?_)
    refine go_iconst dX0_fillGifts_18 ?_
    refine go_vV (M := MX5_fillNets) [vI v1, vI r5, vI 0] [] mv_X0_32 (hL.1 42 _ rfl) rfl (by decide) ⟨Nat.le_of_ble_eq_true rfl, Nat.le_of_ble_eq_true rfl⟩ ⟨Nat.le_refl _, Nat.le_refl _⟩ rfl rfl (Nat.le_of_ble_eq_true rfl) dX0_fillGifts_19 h (fun r7 D7 h => ?_)
    refine go_iconst dX0_fillGifts_22 ?_
    refine go_istore_n [1, 2, 0] (L' := [(0, vR E 53), (1, vI v1), (2, vI 0)]) dX0_fillGifts_23 rfl (by decide) rfl ?_
    exact h
theorem s_X0_fillGifts_24 {l : Launch} {E : Ev} {Q : Int → Sh → Dm → Prop} {G : Sh} {D : Dm} (hL : Lay G) {v1 v2 : Int}  (h : ((-2147483648 ≤ v2 ∧ v2 < 2147483648)) ∧ (((iSl 1 (D 1 1)) ≤ v2 → Q 0 G D) ∧ (v2 < (iSl 1 (D 1 1)) → ((-2147483648 ≤ v1 ∧ v1 < 2147483648)) ∧ ((v1 ≠ (-1) → ((0 ≤ v2 ∧ v2 < 64) ∧ (0 ≤ v1 ∧ v1 < 4) ∧ (-2147483648 ≤ ((D 44 v2) - (D 13 v1)) ∧ ((D 44 v2) - (D 13 v1)) < 2147483648) ∧ (-2147483648 ≤ (max 0 ((D 44 v2) - (D 13 v1))) ∧ (max 0 ((D 44 v2) - (D 13 v1))) < 2147483648)) ∧ KX0_fillGifts l E Q 24 [(0, vR E 53), (1, vI v1), (2, vI (v2 + 1))] G (upd2 D 55 v2 (max 0 ((D 44 v2) - (D 13 v1))))) ∧ (v1 = (-1) → ((0 ≤ v2 ∧ v2 < 64)) ∧ KX0_fillGifts l E Q 24 [(0, vR E 53), (1, vI v1), (2, vI (v2 + 1))] G (upd2 D 55 v2 0)))))) : KX0_fillGifts l E Q 24 [(0, vR E 53), (1, vI v1), (2, vI v2)] G D := by
  obtain ⟨s1, h⟩ := h
  refine go_iload_n 2 dX0_fillGifts_24 rfl rfl ?_
  refine go_aload_n 0 dX0_fillGifts_25 rfl rfl ?_
  refine go_getR 0 f_X0_18 rfl (hL.1 53 _ rfl) (hL.2.1 53 0 _ rfl (by decide)) dX0_fillGifts_26 ?_
  refine go_vIp (M := MX8_lots) [] [vI v2] mv_X0_38 (hL.1 1 _ rfl) rfl (by decide) ⟨Nat.le_of_ble_eq_true rfl, Nat.le_of_ble_eq_true rfl⟩ ⟨Nat.le_refl _, Nat.le_refl _⟩ rfl rfl (Nat.le_of_ble_eq_true rfl) dX0_fillGifts_29 (p_X8_lots hL) ?_
  refine go_icmp_ge 79 dX0_fillGifts_32 (by decide) s1 (r32 _) (fun c3 => ?_) (fun c3 => ?_)
  · have h := h.1 c3
    exact go_return (Nat.le_refl _) (Nat.le_refl _) rfl dX0_fillGifts_79 h
  · have h := h.2 c3
    obtain ⟨s5, h⟩ := h
    refine go_aload_n 0 dX0_fillGifts_35 rfl rfl ?_
    refine go_getR 3 f_X0_15 rfl (hL.1 53 _ rfl) (hL.2.1 53 3 _ rfl (by decide)) dX0_fillGifts_36 ?_
    refine go_iload_n 2 dX0_fillGifts_39 rfl rfl ?_
    refine go_iload_n 1 dX0_fillGifts_40 rfl rfl ?_
    refine go_iconst dX0_fillGifts_41 ?_
    refine go_icmp_ne 49 dX0_fillGifts_42 (by decide) s5 (by decide) (fun c6 => ?_) (fun c6 => ?_)
    · have h := h.1 c6
      obtain ⟨s7, h⟩ := h
      refine go_iconst dX0_fillGifts_49 ?_
      refine go_aload_n 0 dX0_fillGifts_50 rfl rfl ?_
      refine go_getR 1 f_X0_22 rfl (hL.1 53 _ rfl) (hL.2.1 53 1 _ rfl (by decide)) dX0_fillGifts_51 ?_
      refine go_getR 2 f_X0_42 rfl (hL.1 42 _ rfl) (hL.2.1 42 2 _ rfl (by decide)) dX0_fillGifts_54 ?_
      refine go_iload_n 2 dX0_fillGifts_57 rfl rfl ?_
      refine go_iaload (hL.1 44 _ rfl) (b := 64) rfl (by decide) s7.1 dX0_fillGifts_58 ?_
      refine go_aload_n 0 dX0_fillGifts_59 rfl rfl ?_
      refine go_getR 0 f_X0_18 rfl (hL.1 53 _ rfl) (hL.2.1 53 0 _ rfl (by decide)) dX0_fillGifts_60 ?_
      refine go_getR 16 f_X0_51 rfl (hL.1 1 _ rfl) (hL.2.1 1 16 _ rfl (by decide)) dX0_fillGifts_63 ?_
      refine go_iload_n 1 dX0_fillGifts_66 rfl rfl ?_
      refine go_iaload (hL.1 13 _ rfl) (b := 4) rfl (by decide) s7.2.1 dX0_fillGifts_67 ?_
      refine go_isub dX0_fillGifts_68 ?_
      refine go_mmax ma_X0_45 (by decide) s7.2.2.1 ⟨by decide, Nat.le_of_ble_eq_true rfl⟩ ⟨Nat.le_refl _, Nat.le_refl _⟩ dX0_fillGifts_69 ?_
      refine go_iastore (hL.1 55 _ rfl) (b := 64) rfl (by decide) s7.1 s7.2.2.2 dX0_fillGifts_72 ?_
      refine go_iinc 2 [1, 2, 0] (L' := [(0, vR E 53), (1, vI v1), (2, vI (v2 + 1))]) dX0_fillGifts_73 (by decide) rfl rfl ?_
      refine go_goto 24 dX0_fillGifts_76 (by decide) ?_
      exact h
    · have h := h.2 c6
      obtain ⟨s8, h⟩ := h
      refine go_iconst dX0_fillGifts_45 ?_
      refine go_goto 72 dX0_fillGifts_46 (by decide) ?_
      refine go_iastore (hL.1 55 _ rfl) (b := 64) rfl (by decide) s8 (by decide) dX0_fillGifts_72 ?_
      refine go_iinc 2 [1, 2, 0] (L' := [(0, vR E 53), (1, vI v1), (2, vI (v2 + 1))]) dX0_fillGifts_73 (by decide) rfl rfl ?_
      refine go_goto 24 dX0_fillGifts_76 (by decide) ?_
      exact h
theorem s_X0_hungryWeight {l : Launch} {E : Ev} {Q : Int → Sh → Dm → Prop} {G : Sh} {D : Dm} (hL : Lay G) {v1 v2 : Int}  (h : ((0 ≤ v1 ∧ v1 < 4)) ∧ KX0_hungryWeight l E Q 25 [(0, vR E 53), (1, vI v1), (2, vI v2), (3, vI (D 13 v1)), (4, vI (iSl 1 (D 1 1))), (5, vJ 0), (7, vI 0)] G D) : Ct l E MX0_hungryWeight 1 0 0 [vR E 53, vI v1, vI v2] G D Q := by
  refine Ct.of (by decide) (Nat.le_of_ble_eq_true rfl) ?_
  show KX0_hungryWeight l E Q 0 [(0, vR E 53), (1, vI v1), (2, vI v2)] G D
  obtain ⟨s1, h⟩ := h
  refine go_aload_n 0 dX0_hungryWeight_0 rfl rfl ?_
  refine go_getR 0 f_X0_18 rfl (hL.1 53 _ rfl) (hL.2.1 53 0 _ rfl (by decide)) dX0_hungryWeight_1 ?_
  refine go_getR 16 f_X0_51 rfl (hL.1 1 _ rfl) (hL.2.1 1 16 _ rfl (by decide)) dX0_hungryWeight_4 ?_
  refine go_iload_n 1 dX0_hungryWeight_7 rfl rfl ?_
  refine go_iaload (hL.1 13 _ rfl) (b := 4) rfl (by decide) s1 dX0_hungryWeight_8 ?_
  refine go_istore_n [1, 2, 3, 0] (L' := [(0, vR E 53), (1, vI v1), (2, vI v2), (3, vI (D 13 v1))]) dX0_hungryWeight_9 rfl (by decide) rfl ?_
  refine go_aload_n 0 dX0_hungryWeight_10 rfl rfl ?_
  refine go_getR 0 f_X0_18 rfl (hL.1 53 _ rfl) (hL.2.1 53 0 _ rfl (by decide)) dX0_hungryWeight_11 ?_
  refine go_vIp (M := MX8_lots) [] [] mv_X0_38 (hL.1 1 _ rfl) rfl (by decide) ⟨Nat.le_of_ble_eq_true rfl, Nat.le_of_ble_eq_true rfl⟩ ⟨Nat.le_refl _, Nat.le_refl _⟩ rfl rfl (Nat.le_of_ble_eq_true rfl) dX0_hungryWeight_14 (p_X8_lots hL) ?_
  refine go_istore [1, 2, 3, 4, 0] (L' := [(0, vR E 53), (1, vI v1), (2, vI v2), (3, vI (D 13 v1)), (4, vI (iSl 1 (D 1 1)))]) dX0_hungryWeight_17 (by decide) rfl ?_
  refine go_lconst (x := 0) dX0_hungryWeight_19 rfl ?_
  refine go_lstore [1, 2, 3, 4, 5, 0] (L' := [(0, vR E 53), (1, vI v1), (2, vI v2), (3, vI (D 13 v1)), (4, vI (iSl 1 (D 1 1))), (5, vJ 0)]) dX0_hungryWeight_20 (by decide) rfl ?_
  refine go_iconst dX0_hungryWeight_22 ?_
  refine go_istore [1, 2, 3, 4, 5, 6, 0] (L' := [(0, vR E 53), (1, vI v1), (2, vI v2), (3, vI (D 13 v1)), (4, vI (iSl 1 (D 1 1))), (5, vJ 0), (7, vI 0)]) dX0_hungryWeight_23 (by decide) rfl ?_
  exact h
theorem s_X0_hungryWeight_25 {l : Launch} {E : Ev} {Q : Int → Sh → Dm → Prop} {G : Sh} {D : Dm} (hL : Lay G) {v1 v2 v3 v4 v5 v7 : Int}  (h : ((-2147483648 ≤ v7 ∧ v7 < 2147483648) ∧ (-2147483648 ≤ v4 ∧ v4 < 2147483648)) ∧ ((v4 ≤ v7 → Q v5 G D) ∧ (v7 < v4 → ((0 ≤ v7 ∧ v7 < 64) ∧ (-2147483648 ≤ ((D 54 v7) - v3) ∧ ((D 54 v7) - v3) < 2147483648) ∧ (-2147483648 ≤ v2 ∧ v2 < 2147483648) ∧ (-2147483648 ≤ (max 0 ((D 54 v7) - v3)) ∧ (max 0 ((D 54 v7) - v3)) < 2147483648) ∧ (-2147483648 ≤ ((min v2 (max 0 ((D 54 v7) - v3))) + 1) ∧ ((min v2 (max 0 ((D 54 v7) - v3))) + 1) < 2147483648)) ∧ KX0_hungryWeight l E Q 68 [(0, vR E 53), (1, vI v1), (2, vI v2), (3, vI v3), (4, vI v4), (5, vJ v5), (7, vI v7), (8, vI (min v2 (max 0 ((D 54 v7) - v3)))), (9, vI ((min v2 (max 0 ((D 54 v7) - v3))) - (Int.tdiv ((min v2 (max 0 ((D 54 v7) - v3))) + 1) 2))), (10, vJ 0), (12, vI 0)] G D))) : KX0_hungryWeight l E Q 25 [(0, vR E 53), (1, vI v1), (2, vI v2), (3, vI v3), (4, vI v4), (5, vJ v5), (7, vI v7)] G D := by
  obtain ⟨s1, h⟩ := h
  refine go_iload 6 dX0_hungryWeight_25 rfl ?_
  refine go_iload 4 dX0_hungryWeight_27 rfl ?_
  refine go_icmp_ge 142 dX0_hungryWeight_29 (by decide) s1.1 s1.2 (fun c2 => ?_) (fun c2 => ?_)
  · have h := h.1 c2
    refine go_lload 5 dX0_hungryWeight_142 rfl ?_
    exact go_lreturn (Nat.le_refl _) (Nat.le_refl _) rfl dX0_hungryWeight_144 h
  · have h := h.2 c2
    obtain ⟨s4, h⟩ := h
    refine go_iload_n 2 dX0_hungryWeight_32 rfl rfl ?_
    refine go_iconst dX0_hungryWeight_33 ?_
    refine go_aload_n 0 dX0_hungryWeight_34 rfl rfl ?_
    refine go_getR 2 f_X0_9 rfl (hL.1 53 _ rfl) (hL.2.1 53 2 _ rfl (by decide)) dX0_hungryWeight_35 ?_
    refine go_iload 6 dX0_hungryWeight_38 rfl ?_
    refine go_iaload (hL.1 54 _ rfl) (b := 64) rfl (by decide) s4.1 dX0_hungryWeight_40 ?_
    refine go_iload_n 3 dX0_hungryWeight_41 rfl rfl ?_
    refine go_isub dX0_hungryWeight_42 ?_
    refine go_mmax ma_X0_45 (by decide) s4.2.1 ⟨by decide, Nat.le_of_ble_eq_true rfl⟩ ⟨Nat.le_refl _, Nat.le_refl _⟩ dX0_hungryWeight_43 ?_
    refine go_mmin ma_X0_54 s4.2.2.1 s4.2.2.2.1 ⟨by decide, Nat.le_of_ble_eq_true rfl⟩ ⟨Nat.le_refl _, Nat.le_refl _⟩ dX0_hungryWeight_46 ?_
    refine go_istore [1, 2, 3, 4, 5, 6, 7, 0] (L' := [(0, vR E 53), (1, vI v1), (2, vI v2), (3, vI v3), (4, vI v4), (5, vJ v5), (7, vI v7), (8, vI (min v2 (max 0 ((D 54 v7) - v3))))]) dX0_hungryWeight_49 (by decide) rfl ?_
    refine go_iload 7 dX0_hungryWeight_51 rfl ?_
    refine go_iload 7 dX0_hungryWeight_53 rfl ?_
    refine go_iconst dX0_hungryWeight_55 ?_
    refine go_iadd dX0_hungryWeight_56 ?_
    refine go_iconst dX0_hungryWeight_57 ?_
    refine go_idiv ⟨s4.2.2.2.2, (by decide)⟩ dX0_hungryWeight_58 ?_
    refine go_isub dX0_hungryWeight_59 ?_
    refine go_istore [1, 2, 3, 4, 5, 6, 7, 8, 0] (L' := [(0, vR E 53), (1, vI v1), (2, vI v2), (3, vI v3), (4, vI v4), (5, vJ v5), (7, vI v7), (8, vI (min v2 (max 0 ((D 54 v7) - v3)))), (9, vI ((min v2 (max 0 ((D 54 v7) - v3))) - (Int.tdiv ((min v2 (max 0 ((D 54 v7) - v3))) + 1) 2)))]) dX0_hungryWeight_60 (by decide) rfl ?_
    refine go_lconst (x := 0) dX0_hungryWeight_62 rfl ?_
    refine go_lstore [1, 2, 3, 4, 5, 6, 7, 8, 9, 0] (L' := [(0, vR E 53), (1, vI v1), (2, vI v2), (3, vI v3), (4, vI v4), (5, vJ v5), (7, vI v7), (8, vI (min v2 (max 0 ((D 54 v7) - v3)))), (9, vI ((min v2 (max 0 ((D 54 v7) - v3))) - (Int.tdiv ((min v2 (max 0 ((D 54 v7) - v3))) + 1) 2))), (10, vJ 0)]) dX0_hungryWeight_63 (by decide) rfl ?_
    refine go_iconst dX0_hungryWeight_65 ?_
    refine go_istore [1, 2, 3, 4, 5, 6, 7, 8, 9, 10, 0] (L' := [(0, vR E 53), (1, vI v1), (2, vI v2), (3, vI v3), (4, vI v4), (5, vJ v5), (7, vI v7), (8, vI (min v2 (max 0 ((D 54 v7) - v3)))), (9, vI ((min v2 (max 0 ((D 54 v7) - v3))) - (Int.tdiv ((min v2 (max 0 ((D 54 v7) - v3))) + 1) 2))), (10, vJ 0), (12, vI 0)]) dX0_hungryWeight_66 (by decide) rfl ?_
    exact h
theorem s_X0_hungryWeight_68 {l : Launch} {E : Ev} {Q : Int → Sh → Dm → Prop} {G : Sh} {D : Dm} (hL : Lay G) {v1 v2 v3 v4 v5 v7 v8 v9 v10 v12 : Int}  (h : ((-2147483648 ≤ v12 ∧ v12 < 2147483648) ∧ (-2147483648 ≤ v4 ∧ v4 < 2147483648)) ∧ ((v4 ≤ v12 → ((0 ≤ v7 ∧ v7 < 64)) ∧ KX0_hungryWeight l E Q 25 [(0, vR E 53), (1, vI v1), (2, vI v2), (3, vI v3), (4, vI v4), (5, vJ (v5 + ((D 43 v7) * v10))), (7, vI (v7 + 1))] G D) ∧ (v12 < v4 → ((0 ≤ v12 ∧ v12 < 64) ∧ (-2147483648 ≤ (((D 54 v12) + v9) + (D 55 v12)) ∧ (((D 54 v12) + v9) + (D 55 v12)) < 2147483648) ∧ (-2147483648 ≤ v3 ∧ v3 < 2147483648)) ∧ ((v3 ≤ (((D 54 v12) + v9) + (D 55 v12)) → KX0_hungryWeight l E Q 68 [(0, vR E 53), (1, vI v1), (2, vI v2), (3, vI v3), (4, vI v4), (5, vJ v5), (7, vI v7), (8, vI v8), (9, vI v9), (10, vJ v10), (12, vI (v12 + 1))] G D) ∧ ((((D 54 v12) + v9) + (D 55 v12)) < v3 → KX0_hungryWeight l E Q 68 [(0, vR E 53), (1, vI v1), (2, vI v2), (3, vI v3), (4, vI v4), (5, vJ v5), (7, vI v7), (8, vI v8), (9, vI v9), (10, vJ (v10 + (D 43 v12))), (12, vI (v12 + 1))] G D))))) : KX0_hungryWeight l E Q 68 [(0, vR E 53), (1, vI v1), (2, vI v2), (3, vI v3), (4, vI v4), (5, vJ v5), (7, vI v7), (8, vI v8), (9, vI v9), (10, vJ v10), (12, vI v12)] G D := by
  obtain ⟨s1, h⟩ := h
  refine go_iload 10 dX0_hungryWeight_68 rfl ?_
  refine go_iload 4 dX0_hungryWeight_70 rfl ?_
  refine go_icmp_ge 118 dX0_hungryWeight_72 (by decide) s1.1 s1.2 (fun c2 => ?_) (fun c2 => ?_)
  · have h := h.1 c2
    obtain ⟨s3, h⟩ := h
    refine go_lload 5 dX0_hungryWeight_118 rfl ?_
    refine go_aload_n 0 dX0_hungryWeight_120 rfl rfl ?_
    refine go_getR 1 f_X0_22 rfl (hL.1 53 _ rfl) (hL.2.1 53 1 _ rfl (by decide)) dX0_hungryWeight_121 ?_
    refine go_getR 1 f_X0_57 rfl (hL.1 42 _ rfl) (hL.2.1 42 1 _ rfl (by decide)) dX0_hungryWeight_124 ?_
    refine go_iload 6 dX0_hungryWeight_127 rfl ?_
    refine go_laload (hL.1 43 _ rfl) (b := 64) rfl (by decide) s3 dX0_hungryWeight_129 ?_
    refine go_lload 9 dX0_hungryWeight_130 rfl ?_
    refine go_lmul dX0_hungryWeight_132 ?_
    refine go_ladd dX0_hungryWeight_133 ?_
    refine go_lstore [1, 2, 3, 4, 5, 0, 6, 7, 8, 9, 10] (L' := [(0, vR E 53), (1, vI v1), (2, vI v2), (3, vI v3), (4, vI v4), (5, vJ (v5 + ((D 43 v7) * v10))), (7, vI v7), (8, vI v8), (9, vI v9), (10, vJ v10), (12, vI v12)]) dX0_hungryWeight_134 (by decide) rfl ?_
    refine go_iinc 6 [1, 2, 3, 4, 5, 6, 0, 7, 8, 9, 10] (L' := [(0, vR E 53), (1, vI v1), (2, vI v2), (3, vI v3), (4, vI v4), (5, vJ (v5 + ((D 43 v7) * v10))), (7, vI (v7 + 1)), (8, vI v8), (9, vI v9), (10, vJ v10), (12, vI v12)]) dX0_hungryWeight_136 (by decide) rfl rfl ?_
    refine go_goto 25 dX0_hungryWeight_139 (by decide) ?_
    refine go_sub [0, 1, 2, 3, 4, 5, 6] (L' := [(0, vR E 53), (1, vI v1), (2, vI v2), (3, vI v3), (4, vI v4), (5, vJ (v5 + ((D 43 v7) * v10))), (7, vI (v7 + 1))]) rfl ?_
    exact h
  · have h := h.2 c2
    obtain ⟨s4, h⟩ := h
    refine go_aload_n 0 dX0_hungryWeight_75 rfl rfl ?_
    refine go_getR 2 f_X0_9 rfl (hL.1 53 _ rfl) (hL.2.1 53 2 _ rfl (by decide)) dX0_hungryWeight_76 ?_
    refine go_iload 10 dX0_hungryWeight_79 rfl ?_
    refine go_iaload (hL.1 54 _ rfl) (b := 64) rfl (by decide) s4.1 dX0_hungryWeight_81 ?_
    refine go_iload 8 dX0_hungryWeight_82 rfl ?_
    refine go_iadd dX0_hungryWeight_84 ?_
    refine go_aload_n 0 dX0_hungryWeight_85 rfl rfl ?_
    refine go_getR 3 f_X0_15 rfl (hL.1 53 _ rfl) (hL.2.1 53 3 _ rfl (by decide)) dX0_hungryWeight_86 ?_
    refine go_iload 10 dX0_hungryWeight_89 rfl ?_
    refine go_iaload (hL.1 55 _ rfl) (b := 64) rfl (by decide) s4.1 dX0_hungryWeight_91 ?_
    refine go_iadd dX0_hungryWeight_92 ?_
    refine go_iload_n 3 dX0_hungryWeight_93 rfl rfl ?_
    refine go_icmp_ge 112 dX0_hungryWeight_94 (by decide) s4.2.1 s4.2.2 (fun c5 => ?_) (fun c5 => ?_)
    · have h := h.1 c5
      refine go_iinc 10 [1, 2, 3, 4, 5, 6, 7, 8, 9, 10, 0] (L' := [(0, vR E 53), (1, vI v1), (2, vI v2), (3, vI v3), (4, vI v4), (5, vJ v5), (7, vI v7), (8, vI v8), (9, vI v9), (10, vJ v10), (12, vI (v12 + 1))]) dX0_hungryWeight_112 (by decide) rfl rfl ?_
      refine go_goto 68 dX0_hungryWeight_115 (by decide) ?_
      exact h
    · have h := h.2 c5
      refine go_lload 9 dX0_hungryWeight_97 rfl ?_
      refine go_aload_n 0 dX0_hungryWeight_99 rfl rfl ?_
      refine go_getR 1 f_X0_22 rfl (hL.1 53 _ rfl) (hL.2.1 53 1 _ rfl (by decide)) dX0_hungryWeight_100 ?_
      refine go_getR 1 f_X0_57 rfl (hL.1 42 _ rfl) (hL.2.1 42 1 _ rfl (by decide)) dX0_hungryWeight_103 ?_
      refine go_iload 10 dX0_hungryWeight_106 rfl ?_
      refine go_laload (hL.1 43 _ rfl) (b := 64) rfl (by decide) s4.1 dX0_hungryWeight_108 ?_
      refine go_ladd dX0_hungryWeight_109 ?_
      refine go_lstore [1, 2, 3, 4, 5, 6, 7, 8, 9, 0, 10] (L' := [(0, vR E 53), (1, vI v1), (2, vI v2), (3, vI v3), (4, vI v4), (5, vJ v5), (7, vI v7), (8, vI v8), (9, vI v9), (10, vJ (v10 + (D 43 v12))), (12, vI v12)]) dX0_hungryWeight_110 (by decide) rfl ?_
      refine go_iinc 10 [1, 2, 3, 4, 5, 6, 7, 8, 9, 10, 0] (L' := [(0, vR E 53), (1, vI v1), (2, vI v2), (3, vI v3), (4, vI v4), (5, vJ v5), (7, vI v7), (8, vI v8), (9, vI v9), (10, vJ (v10 + (D 43 v12))), (12, vI (v12 + 1))]) dX0_hungryWeight_112 (by decide) rfl rfl ?_
      refine go_goto 68 dX0_hungryWeight_115 (by decide) ?_
      exact h
theorem s_X1_listSets {l : Launch} {E : Ev} {Q : Int → Sh → Dm → Prop} {G : Sh} {D : Dm} (hL : Lay G) {v1 v2 : Int}  (h : C0 l E MX8_openTo 0 [vR E 1, vI v1] G D (fun r2 D2 => KX1_listSets l E Q 17 [(0, vR E 49), (1, vI v1), (2, vI v2), (3, vI r2), (4, vI 0)] G (upd2 D2 49 5 0))) : Ct l E MX1_listSets 2 0 0 [vR E 49, vI v1, vI v2] G D Q := by
  refine Ct.of (by decide) (Nat.le_of_ble_eq_true rfl) ?_
  show KX1_listSets l E Q 0 [(0, vR E 49), (1, vI v1), (2, vI v2)] G D
  refine go_aload_n 0 dX1_listSets_0 rfl rfl ?_
  refine go_getR 0 f_X1_33 rfl (hL.1 49 _ rfl) (hL.2.1 49 0 _ rfl (by decide)) dX1_listSets_1 ?_
  refine go_iload_n 1 dX1_listSets_4 rfl rfl ?_
  refine go_vI (M := MX8_openTo) [vI v1] [] mv_X1_41 (hL.1 1 _ rfl) rfl (by decide) ⟨Nat.le_of_ble_eq_true rfl, Nat.le_of_ble_eq_true rfl⟩ ⟨Nat.le_refl _, Nat.le_refl _⟩ rfl rfl (Nat.le_of_ble_eq_true rfl) dX1_listSets_5 h (fun r2 D2 h => ?_)
  refine go_istore_n [1, 2, 3, 0] (L' := [(0, vR E 49), (1, vI v1), (2, vI v2), (3, vI r2)]) dX1_listSets_8 rfl (by decide) rfl ?_
  refine go_aload_n 0 dX1_listSets_9 rfl rfl ?_
  refine go_iconst dX1_listSets_10 ?_
  refine go_putI 5 (i := 5) (by decide) f_X1_22 rfl (hL.1 49 _ rfl) dX1_listSets_11 ?_
  refine go_iconst dX1_listSets_14 ?_
  refine go_istore [1, 2, 3, 4, 0] (L' := [(0, vR E 49), (1, vI v1), (2, vI v2), (3, vI r2), (4, vI 0)]) dX1_listSets_15 (by decide) rfl ?_
  exact h
theorem s_X1_listSets_17 {l : Launch} {E : Ev} {Q : Int → Sh → Dm → Prop} {G : Sh} {D : Dm} (hL : Lay G) {v1 v2 v3 v4 : Int}  (h : ((-2147483648 ≤ v4 ∧ v4 < 2147483648) ∧ (-2147483648 ≤ v3 ∧ v3 < 2147483648)) ∧ ((v3 < v4 → Q 0 G D) ∧ (v4 ≤ v3 → (((iA v4 (iX v3 (-1))) ≠ 0 → KX1_listSets l E Q 17 [(0, vR E 49), (1, vI v1), (2, vI v2), (3, vI v3), (4, vI (v4 + 1))] G D) ∧ ((iA v4 (iX v3 (-1))) = 0 → C0 l E MJ6_bitCount_0f7a4 0 [vI v4] G D (fun r8 D8 => ((-2147483648 ≤ r8 ∧ r8 < 2147483648) ∧ (-2147483648 ≤ v2 ∧ v2 < 2147483648)) ∧ ((r8 ≠ v2 → KX1_listSets l E Q 17 [(0, vR E 49), (1, vI v1), (2, vI v2), (3, vI v3), (4, vI (v4 + 1))] G D8) ∧ (r8 = v2 → ((252 ≤ (D8 49 5) → KX1_listSets l E Q 17 [(0, vR E 49), (1, vI v1), (2, vI v2), (3, vI v3), (4, vI (v4 + 1))] G D8) ∧ ((D8 49 5) < 252 → C0 l E MX5_sumUp 2 [vR E 42, vI v1, vI v4] G D8 (fun r17 D17 => ((0 ≤ (D17 49 5) ∧ (D17 49 5) < 252) ∧ (-2147483648 ≤ ((D17 49 5) + 1) ∧ ((D17 49 5) + 1) < 2147483648)) ∧ KX1_listSets l E Q 17 [(0, vR E 49), (1, vI v1), (2, vI v2), (3, vI v3), (4, vI (v4 + 1))] G (upd2 (upd2 (upd2 (upd2 D17 50 (D17 49 5) v4) 51 (D17 49 5) (D17 42 3)) 52 (D17 49 5) (D17 42 4)) 49 5 ((D17 49 5) + 1))))))))))))) : KX1_listSets l E Q 17 [(0, vR E 49), (1, vI v1), (2, vI v2), (3, vI v3), (4, vI v4)] G D := by
  obtain ⟨s1, h⟩ := h
  refine go_iload 4 dX1_listSets_17 rfl ?_
  refine go_iload_n 3 dX1_listSets_19 rfl rfl ?_
  refine go_icmp_gt 120 dX1_listSets_20 (by decide) s1.1 s1.2 (fun c2 => ?_) (fun c2 => ?_)
  · have h := h.1 c2
    exact go_return (Nat.le_refl _) (Nat.le_refl _) rfl dX1_listSets_120 h
  · have h := h.2 c2
    refine go_iload 4 dX1_listSets_23 rfl ?_
    refine go_iload_n 3 dX1_listSets_25 rfl rfl ?_
    refine go_iconst dX1_listSets_26 ?_
    refine go_ixor dX1_listSets_27 ?_
    refine go_iand dX1_listSets_28 ?_
    refine go_if_ne 114 dX1_listSets_29 (by decide) (r32 _) (fun c5 => ?_) (fun c5 => ?_)
    · have h := h.1 c5
      refine go_iinc 4 [1, 2, 3, 4, 0] (L' := [(0, vR E 49), (1, vI v1), (2, vI v2), (3, vI v3), (4, vI (v4 + 1))]) dX1_listSets_114 (by decide) rfl rfl ?_
      refine go_goto 17 dX1_listSets_117 (by decide) ?_
      exact h
    · have h := h.2 c5
      refine go_iload 4 dX1_listSets_32 rfl ?_
      refine go_sI (M := MJ6_bitCount_0f7a4) [vI v4] [] ms_X1_47 ⟨Nat.le_of_ble_eq_true rfl, Nat.le_of_ble_eq_true rfl⟩ ⟨Nat.le_refl _, Nat.le_refl _⟩ rfl rfl (Nat.le_of_ble_eq_true rfl) dX1_listSets_34 h (fun r8 D8 h => ?_)
      obtain ⟨s9, h⟩ := h
      refine go_iload_n 2 dX1_listSets_37 rfl rfl ?_
      refine go_icmp_ne 114 dX1_listSets_38 (by decide) s9.1 s9.2 (fun c10 => ?_) (fun c10 => ?_)
      · have h := h.1 c10
        refine go_iinc 4 [1, 2, 3, 4, 0] (L' := [(0, vR E 49), (1, vI v1), (2, vI v2), (3, vI v3), (4, vI (v4 + 1))]) dX1_listSets_114 (by decide) rfl rfl ?_
        refine go_goto 17 dX1_listSets_117 (by decide) ?_
        exact h
      · have h := h.2 c10
        refine go_aload_n 0 dX1_listSets_41 rfl rfl ?_
        refine go_getI 5 (i := 5) f_X1_22 rfl (hL.1 49 _ rfl) dX1_listSets_42 ?_
        refine go_sipush dX1_listSets_45 (by decide) ?_
        refine go_rngI (c := 49) (i := 5) (hL.1 49 _ rfl) rfl (fun (q13 : -2147483648 ≤ (D8 49 5) ∧ (D8 49 5) < 2147483648) => ?_)
        refine go_icmp_ge 114 dX1_listSets_48 (by decide) q13 (by decide) (fun c14 => ?_) (fun c14 => ?_)
        · have h := h.1 c14
          refine go_iinc 4 [1, 2, 3, 4, 0] (L' := [(0, vR E 49), (1, vI v1), (2, vI v2), (3, vI v3), (4, vI (v4 + 1))]) dX1_listSets_114 (by decide) rfl rfl ?_
          refine go_goto 17 dX1_listSets_117 (by decide) ?_
          exact h
        · have h := h.2 c14
          refine go_aload_n 0 dX1_listSets_51 rfl rfl ?_
          refine go_getR 1 f_X1_37 rfl (hL.1 49 _ rfl) (hL.2.1 49 1 _ rfl (by decide)) dX1_listSets_52 ?_
          refine go_iload_n 1 dX1_listSets_55 rfl rfl ?_
          refine go_iload 4 dX1_listSets_56 rfl ?_
          refine go_vV (M := MX5_sumUp) [vI v1, vI v4] [] mv_X1_52 (hL.1 42 _ rfl) rfl (by decide) ⟨Nat.le_of_ble_eq_true rfl, Nat.le_of_ble_eq_true rfl⟩ ⟨Nat.le_refl _, Nat.le_refl _⟩ rfl rfl (Nat.le_of_ble_eq_true rfl) dX1_listSets_58 h (fun r17 D17 h => ?_)
          obtain ⟨s18, h⟩ := h
          refine go_aload_n 0 dX1_listSets_61 rfl rfl ?_
          refine go_getR 2 f_X1_11 rfl (hL.1 49 _ rfl) (hL.2.1 49 2 _ rfl (by decide)) dX1_listSets_62 ?_
          refine go_aload_n 0 dX1_listSets_65 rfl rfl ?_
          refine go_getI 5 (i := 5) f_X1_22 rfl (hL.1 49 _ rfl) dX1_listSets_66 ?_
          refine go_iload 4 dX1_listSets_69 rfl ?_
          refine go_iastore (hL.1 50 _ rfl) (b := 252) rfl (by decide) s18.1 s1.1 dX1_listSets_71 ?_
          refine go_aload_n 0 dX1_listSets_72 rfl rfl ?_
          refine go_getR 3 f_X1_15 rfl (hL.1 49 _ rfl) (hL.2.1 49 3 _ rfl (by decide)) dX1_listSets_73 ?_
          refine go_aload_n 0 dX1_listSets_76 rfl rfl ?_
          refine go_getI 5 (i := 5) f_X1_22 rfl (hL.1 49 _ rfl) dX1_listSets_77 ?_
          refine go_aload_n 0 dX1_listSets_80 rfl rfl ?_
          refine go_getR 1 f_X1_37 rfl (hL.1 49 _ rfl) (hL.2.1 49 1 _ rfl (by decide)) dX1_listSets_81 ?_
          refine go_getJ 3 (i := 3) f_X1_58 rfl (hL.1 42 _ rfl) dX1_listSets_84 ?_
          refine go_rngJ (c := 42) (i := 3) (hL.1 42 _ rfl) rfl (fun (q19 : -9223372036854775808 ≤ (D17 42 3) ∧ (D17 42 3) < 9223372036854775808) => ?_)
          refine go_lastore (hL.1 51 _ rfl) (b := 252) rfl (by decide) s18.1 q19 dX1_listSets_87 ?_
          refine go_aload_n 0 dX1_listSets_88 rfl rfl ?_
          refine go_getR 4 f_X1_19 rfl (hL.1 49 _ rfl) (hL.2.1 49 4 _ rfl (by decide)) dX1_listSets_89 ?_
          refine go_aload_n 0 dX1_listSets_92 rfl rfl ?_
          refine go_getI 5 (i := 5) f_X1_22 rfl (hL.1 49 _ rfl) dX1_listSets_93 ?_
          refine go_aload_n 0 dX1_listSets_96 rfl rfl ?_
          refine go_getR 1 f_X1_37 rfl (hL.1 49 _ rfl) (hL.2.1 49 1 _ rfl (by decide)) dX1_listSets_97 ?_
          refine go_getJ 4 (i := 4) f_X1_61 rfl (hL.1 42 _ rfl) dX1_listSets_100 ?_
          refine go_rngJ (c := 42) (i := 4) (hL.1 42 _ rfl) rfl (fun (q20 : -9223372036854775808 ≤ (D17 42 4) ∧ (D17 42 4) < 9223372036854775808) => ?_)
          refine go_lastore (hL.1 52 _ rfl) (b := 252) rfl (by decide) s18.1 q20 dX1_listSets_103 ?_
          refine go_aload_n 0 dX1_listSets_104 rfl rfl ?_
          refine go_dup rfl dX1_listSets_105 ?_
          refine go_getI 5 (i := 5) f_X1_22 rfl (hL.1 49 _ rfl) dX1_listSets_106 ?_
          refine go_iconst dX1_listSets_109 ?_
          refine go_iadd dX1_listSets_110 ?_
          refine go_putI 5 (i := 5) s18.2 f_X1_22 rfl (hL.1 49 _ rfl) dX1_listSets_111 ?_
          refine go_iinc 4 [1, 2, 3, 4, 0] (L' := [(0, vR E 49), (1, vI v1), (2, vI v2), (3, vI v3), (4, vI (v4 + 1))]) dX1_listSets_114 (by decide) rfl rfl ?_
          refine go_goto 17 dX1_listSets_117 (by decide) ?_
          exact h
theorem s_X1_worthAt {l : Launch} {E : Ev} {Q : Int → Sh → Dm → Prop} {G : Sh} {D : Dm} (hL : Lay G) {v1 v2 : Int}  (h : ((0 ≤ v1 ∧ v1 < 252) ∧ (-2147483648 ≤ v2 ∧ v2 < 2147483648)) ∧ Q ((D 51 v1) - (v2 * (D 52 v1))) G D) : Ct l E MX1_worthAt 1 0 0 [vR E 49, vI v1, vI v2] G D Q := by
  refine Ct.of (by decide) (Nat.le_of_ble_eq_true rfl) ?_
  show KX1_worthAt l E Q 0 [(0, vR E 49), (1, vI v1), (2, vI v2)] G D
  obtain ⟨s1, h⟩ := h
  refine go_aload_n 0 dX1_worthAt_0 rfl rfl ?_
  refine go_getR 3 f_X1_15 rfl (hL.1 49 _ rfl) (hL.2.1 49 3 _ rfl (by decide)) dX1_worthAt_1 ?_
  refine go_iload_n 1 dX1_worthAt_4 rfl rfl ?_
  refine go_laload (hL.1 51 _ rfl) (b := 252) rfl (by decide) s1.1 dX1_worthAt_5 ?_
  refine go_iload_n 2 dX1_worthAt_6 rfl rfl ?_
  refine go_i2l s1.2 dX1_worthAt_7 ?_
  refine go_aload_n 0 dX1_worthAt_8 rfl rfl ?_
  refine go_getR 4 f_X1_19 rfl (hL.1 49 _ rfl) (hL.2.1 49 4 _ rfl (by decide)) dX1_worthAt_9 ?_
  refine go_iload_n 1 dX1_worthAt_12 rfl rfl ?_
  refine go_laload (hL.1 52 _ rfl) (b := 252) rfl (by decide) s1.1 dX1_worthAt_13 ?_
  refine go_lmul dX1_worthAt_14 ?_
  refine go_lsub dX1_worthAt_15 ?_
  exact go_lreturn (Nat.le_refl _) (Nat.le_refl _) rfl dX1_worthAt_16 h
theorem p_X1_worthAt {l : Launch} {E : Ev} {G : Sh} {D : Dm} (hL : Lay G) {v1 v2 : Int}  (q0 : 0 ≤ v1 ∧ v1 < 252) (q1 : -2147483648 ≤ v2 ∧ v2 < 2147483648) : C0 l E MX1_worthAt 1 [vR E 49, vI v1, vI v2] G D (fun r D' => r = ((D 51 v1) - (v2 * (D 52 v1))) ∧ D' = D) := s_X1_worthAt hL ⟨⟨q0, q1⟩, ⟨rfl, rfl, rfl⟩⟩
theorem s_X1_bestIndex {l : Launch} {E : Ev} {Q : Int → Sh → Dm → Prop} {G : Sh} {D : Dm} (hL : Lay G) {v1 : Int}  (h : KX1_bestIndex l E Q 4 [(0, vR E 49), (1, vI v1), (2, vI 0), (3, vI 1)] G D) : Ct l E MX1_bestIndex 0 0 0 [vR E 49, vI v1] G D Q := by
  refine Ct.of (by decide) (Nat.le_of_ble_eq_true rfl) ?_
  show KX1_bestIndex l E Q 0 [(0, vR E 49), (1, vI v1)] G D
  refine go_iconst dX1_bestIndex_0 ?_
  refine go_istore_n [1, 2, 0] (L' := [(0, vR E 49), (1, vI v1), (2, vI 0)]) dX1_bestIndex_1 rfl (by decide) rfl ?_
  refine go_iconst dX1_bestIndex_2 ?_
  refine go_istore_n [1, 2, 3, 0] (L' := [(0, vR E 49), (1, vI v1), (2, vI 0), (3, vI 1)]) dX1_bestIndex_3 rfl (by decide) rfl ?_
  exact h
theorem s_X1_bestIndex_4 {l : Launch} {E : Ev} {Q : Int → Sh → Dm → Prop} {G : Sh} {D : Dm} (hL : Lay G) {v1 v2 v3 : Int}  (h : ((-2147483648 ≤ v3 ∧ v3 < 2147483648)) ∧ (((D 49 5) ≤ v3 → Q v2 G D) ∧ (v3 < (D 49 5) → ((0 ≤ v3 ∧ v3 < 252) ∧ (-2147483648 ≤ v1 ∧ v1 < 2147483648) ∧ (0 ≤ v2 ∧ v2 < 252) ∧ (-9223372036854775808 ≤ ((D 51 v3) - (v1 * (D 52 v3))) ∧ ((D 51 v3) - (v1 * (D 52 v3))) < 9223372036854775808) ∧ (-9223372036854775808 ≤ ((D 51 v2) - (v1 * (D 52 v2))) ∧ ((D 51 v2) - (v1 * (D 52 v2))) < 9223372036854775808)) ∧ ((((D 51 v3) - (v1 * (D 52 v3))) ≤ ((D 51 v2) - (v1 * (D 52 v2))) → KX1_bestIndex l E Q 4 [(0, vR E 49), (1, vI v1), (2, vI v2), (3, vI (v3 + 1))] G D) ∧ (((D 51 v2) - (v1 * (D 52 v2))) < ((D 51 v3) - (v1 * (D 52 v3))) → KX1_bestIndex l E Q 4 [(0, vR E 49), (1, vI v1), (2, vI v3), (3, vI (v3 + 1))] G D))))) : KX1_bestIndex l E Q 4 [(0, vR E 49), (1, vI v1), (2, vI v2), (3, vI v3)] G D := by
  obtain ⟨s1, h⟩ := h
  refine go_iload_n 3 dX1_bestIndex_4 rfl rfl ?_
  refine go_aload_n 0 dX1_bestIndex_5 rfl rfl ?_
  refine go_getI 5 (i := 5) f_X1_22 rfl (hL.1 49 _ rfl) dX1_bestIndex_6 ?_
  refine go_rngI (c := 49) (i := 5) (hL.1 49 _ rfl) rfl (fun (q2 : -2147483648 ≤ (D 49 5) ∧ (D 49 5) < 2147483648) => ?_)
  refine go_icmp_ge 36 dX1_bestIndex_9 (by decide) s1 q2 (fun c3 => ?_) (fun c3 => ?_)
  · have h := h.1 c3
    refine go_iload_n 2 dX1_bestIndex_36 rfl rfl ?_
    exact go_ireturn (Nat.le_refl _) (Nat.le_refl _) rfl dX1_bestIndex_37 h
  · have h := h.2 c3
    obtain ⟨s5, h⟩ := h
    refine go_aload_n 0 dX1_bestIndex_12 rfl rfl ?_
    refine go_iload_n 3 dX1_bestIndex_13 rfl rfl ?_
    refine go_iload_n 1 dX1_bestIndex_14 rfl rfl ?_
    refine go_vJp (M := MX1_worthAt) [vI v3, vI v1] [] mv_X1_64 (hL.1 49 _ rfl) rfl (by decide) ⟨Nat.le_of_ble_eq_true rfl, Nat.le_of_ble_eq_true rfl⟩ ⟨Nat.le_refl _, Nat.le_refl _⟩ rfl rfl (Nat.le_of_ble_eq_true rfl) dX1_bestIndex_15 (p_X1_worthAt hL s5.1 s5.2.1) ?_
    refine go_aload_n 0 dX1_bestIndex_18 rfl rfl ?_
    refine go_iload_n 2 dX1_bestIndex_19 rfl rfl ?_
    refine go_iload_n 1 dX1_bestIndex_20 rfl rfl ?_
    refine go_vJp (M := MX1_worthAt) [vI v2, vI v1] [vJ ((D 51 v3) - (v1 * (D 52 v3)))] mv_X1_64 (hL.1 49 _ rfl) rfl (by decide) ⟨Nat.le_of_ble_eq_true rfl, Nat.le_of_ble_eq_true rfl⟩ ⟨Nat.le_refl _, Nat.le_refl _⟩ rfl rfl (Nat.le_of_ble_eq_true rfl) dX1_bestIndex_21 (p_X1_worthAt hL s5.2.2.1 s5.2.1) ?_
    refine go_lcmp_le 30 dX1_bestIndex_24 dX1_bestIndex_25 (by decide) s5.2.2.2.1 s5.2.2.2.2 (fun c8 => ?_) (fun c8 => ?_)
    · have h := h.1 c8
      refine go_iinc 3 [1, 2, 3, 0] (L' := [(0, vR E 49), (1, vI v1), (2, vI v2), (3, vI (v3 + 1))]) dX1_bestIndex_30 (by decide) rfl rfl ?_
      refine go_goto 4 dX1_bestIndex_33 (by decide) ?_
      exact h
    · have h := h.2 c8
      refine go_iload_n 3 dX1_bestIndex_28 rfl rfl ?_
      refine go_istore_n [1, 2, 0, 3] (L' := [(0, vR E 49), (1, vI v1), (2, vI v3), (3, vI v3)]) dX1_bestIndex_29 rfl (by decide) rfl ?_
      refine go_iinc 3 [1, 2, 3, 0] (L' := [(0, vR E 49), (1, vI v1), (2, vI v3), (3, vI (v3 + 1))]) dX1_bestIndex_30 (by decide) rfl rfl ?_
      refine go_goto 4 dX1_bestIndex_33 (by decide) ?_
      exact h
theorem s_X1_leastOtherHunger {l : Launch} {E : Ev} {Q : Int → Sh → Dm → Prop} {G : Sh} {D : Dm} (hL : Lay G)  (h : C0 l E MX1_bestIndex 0 [vR E 49, vI 0] G D (fun r2 D2 => KX1_leastOtherHunger l E Q 8 [(0, vR E 49), (1, vI r2), (2, vI 1)] G D2)) : Ct l E MX1_leastOtherHunger 0 0 0 [vR E 49] G D Q := by
  refine Ct.of (by decide) (Nat.le_of_ble_eq_true rfl) ?_
  show KX1_leastOtherHunger l E Q 0 [(0, vR E 49)] G D
  refine go_aload_n 0 dX1_leastOtherHunger_0 rfl rfl ?_
  refine go_iconst dX1_leastOtherHunger_1 ?_
  refine go_vI (M := MX1_bestIndex) [vI 0] [] mv_X1_68 (hL.1 49 _ rfl) rfl (by decide) ⟨Nat.le_of_ble_eq_true rfl, Nat.le_of_ble_eq_true rfl⟩ ⟨Nat.le_refl _, Nat.le_refl _⟩ rfl rfl (Nat.le_of_ble_eq_true rfl) dX1_leastOtherHunger_2 h (fun r2 D2 h => ?_)
  refine go_istore_n [1, 0] (L' := [(0, vR E 49), (1, vI r2)]) dX1_leastOtherHunger_5 rfl (by decide) rfl ?_
  refine go_iconst dX1_leastOtherHunger_6 ?_
  refine go_istore_n [1, 2, 0] (L' := [(0, vR E 49), (1, vI r2), (2, vI 1)]) dX1_leastOtherHunger_7 rfl (by decide) rfl ?_
  exact h
theorem s_X1_leastOtherHunger_8 {l : Launch} {E : Ev} {Q : Int → Sh → Dm → Prop} {G : Sh} {D : Dm} (hL : Lay G) {v1 v2 : Int}  (h : ((-2147483648 ≤ v2 ∧ v2 < 2147483648)) ∧ ((99 < v2 → Q (-1) G D) ∧ (v2 ≤ 99 → C0 l E MX1_bestIndex 0 [vR E 49, vI v2] G D (fun r5 D5 => ((-2147483648 ≤ r5 ∧ r5 < 2147483648) ∧ (-2147483648 ≤ v1 ∧ v1 < 2147483648)) ∧ ((r5 = v1 → KX1_leastOtherHunger l E Q 8 [(0, vR E 49), (1, vI v1), (2, vI (v2 + 1))] G D5) ∧ (r5 ≠ v1 → Q v2 G D5)))))) : KX1_leastOtherHunger l E Q 8 [(0, vR E 49), (1, vI v1), (2, vI v2)] G D := by
  obtain ⟨s1, h⟩ := h
  refine go_iload_n 2 dX1_leastOtherHunger_8 rfl rfl ?_
  refine go_bipush dX1_leastOtherHunger_9 (by decide) ?_
  refine go_icmp_gt 31 dX1_leastOtherHunger_11 (by decide) s1 (by decide) (fun c2 => ?_) (fun c2 => ?_)
  · have h := h.1 c2
    refine go_iconst dX1_leastOtherHunger_31 ?_
    exact go_ireturn (Nat.le_refl _) (Nat.le_refl _) rfl dX1_leastOtherHunger_32 h
  · have h := h.2 c2
    refine go_aload_n 0 dX1_leastOtherHunger_14 rfl rfl ?_
    refine go_iload_n 2 dX1_leastOtherHunger_15 rfl rfl ?_
    refine go_vI (M := MX1_bestIndex) [vI v2] [] mv_X1_68 (hL.1 49 _ rfl) rfl (by decide) ⟨Nat.le_of_ble_eq_true rfl, Nat.le_of_ble_eq_true rfl⟩ ⟨Nat.le_refl _, Nat.le_refl _⟩ rfl rfl (Nat.le_of_ble_eq_true rfl) dX1_leastOtherHunger_16 h (fun r5 D5 h => ?_)
    obtain ⟨s6, h⟩ := h
    refine go_iload_n 1 dX1_leastOtherHunger_19 rfl rfl ?_
    refine go_icmp_eq 25 dX1_leastOtherHunger_20 (by decide) s6.1 s6.2 (fun c7 => ?_) (fun c7 => ?_)
    · have h := h.1 c7
      refine go_iinc 2 [1, 2, 0] (L' := [(0, vR E 49), (1, vI v1), (2, vI (v2 + 1))]) dX1_leastOtherHunger_25 (by decide) rfl rfl ?_
      refine go_goto 8 dX1_leastOtherHunger_28 (by decide) ?_
      exact h
    · have h := h.2 c7
      refine go_iload_n 2 dX1_leastOtherHunger_23 rfl rfl ?_
      exact go_ireturn (Nat.le_refl _) (Nat.le_refl _) rfl dX1_leastOtherHunger_24 h
theorem s_X1_bestExchange {l : Launch} {E : Ev} {Q : Int → Sh → Dm → Prop} {G : Sh} {D : Dm} (hL : Lay G) {v1 v2 v3 : Int}  (h : KX1_bestExchange l E Q 6 [(0, vR E 49), (1, vI v1), (2, vI v2), (3, vI v3), (4, vI (-1)), (5, vI 0)] G D) : Ct l E MX1_bestExchange 0 0 0 [vR E 49, vI v1, vI v2, vI v3] G D Q := by
  refine Ct.of (by decide) (Nat.le_of_ble_eq_true rfl) ?_
  show KX1_bestExchange l E Q 0 [(0, vR E 49), (1, vI v1), (2, vI v2), (3, vI v3)] G D
  refine go_iconst dX1_bestExchange_0 ?_
  refine go_istore [1, 2, 3, 4, 0] (L' := [(0, vR E 49), (1, vI v1), (2, vI v2), (3, vI v3), (4, vI (-1))]) dX1_bestExchange_1 (by decide) rfl ?_
  refine go_iconst dX1_bestExchange_3 ?_
  refine go_istore [1, 2, 3, 4, 5, 0] (L' := [(0, vR E 49), (1, vI v1), (2, vI v2), (3, vI v3), (4, vI (-1)), (5, vI 0)]) dX1_bestExchange_4 (by decide) rfl ?_
  exact h
theorem s_X1_bestExchange_6 {l : Launch} {E : Ev} {Q : Int → Sh → Dm → Prop} {G : Sh} {D : Dm} (hL : Lay G) {v1 v2 v3 v4 v5 : Int}  (h : ((-2147483648 ≤ v5 ∧ v5 < 2147483648)) ∧ (((D 1 0) ≤ v5 → Q v4 G D) ∧ (v5 < (D 1 0) → KX1_bestExchange l E Q 21 [(0, vR E 49), (1, vI v1), (2, vI v2), (3, vI v3), (4, vI v4), (5, vI v5), (6, vI 0)] G D))) : KX1_bestExchange l E Q 6 [(0, vR E 49), (1, vI v1), (2, vI v2), (3, vI v3), (4, vI v4), (5, vI v5)] G D := by
  obtain ⟨s1, h⟩ := h
  refine go_iload 5 dX1_bestExchange_6 rfl ?_
  refine go_aload_n 0 dX1_bestExchange_8 rfl rfl ?_
  refine go_getR 0 f_X1_33 rfl (hL.1 49 _ rfl) (hL.2.1 49 0 _ rfl (by decide)) dX1_bestExchange_9 ?_
  refine go_getI 0 (i := 0) f_X1_84 rfl (hL.1 1 _ rfl) dX1_bestExchange_12 ?_
  refine go_rngI (c := 1) (i := 0) (hL.1 1 _ rfl) rfl (fun (q2 : -2147483648 ≤ (D 1 0) ∧ (D 1 0) < 2147483648) => ?_)
  refine go_icmp_ge 147 dX1_bestExchange_15 (by decide) s1 q2 (fun c3 => ?_) (fun c3 => ?_)
  · have h := h.1 c3
    refine go_iload 4 dX1_bestExchange_147 rfl ?_
    exact go_ireturn (Nat.le_refl _) (Nat.le_refl _) rfl dX1_bestExchange_149 h
  · have h := h.2 c3
    refine go_iconst dX1_bestExchange_18 ?_
    refine go_istore [1, 2, 3, 4, 5, 6, 0] (L' := [(0, vR E 49), (1, vI v1), (2, vI v2), (3, vI v3), (4, vI v4), (5, vI v5), (6, vI 0)]) dX1_bestExchange_19 (by decide) rfl ?_
    exact h
theorem s_X1_bestExchange_21 {l : Launch} {E : Ev} {Q : Int → Sh → Dm → Prop} {G : Sh} {D : Dm} (hL : Lay G) {v1 v2 v3 v4 v5 v6 : Int}  (h : ((-2147483648 ≤ v6 ∧ v6 < 2147483648)) ∧ (((D 1 0) ≤ v6 → KX1_bestExchange l E Q 6 [(0, vR E 49), (1, vI v1), (2, vI v2), (3, vI v3), (4, vI v4), (5, vI (v5 + 1))] G D) ∧ (v6 < (D 1 0) → (((iA (iSr v2 v5) 1) = 0 → KX1_bestExchange l E Q 21 [(0, vR E 49), (1, vI v1), (2, vI v2), (3, vI v3), (4, vI v4), (5, vI v5), (6, vI (v6 + 1))] G D) ∧ ((iA (iSr v2 v5) 1) ≠ 0 → (((iA (iSr (iA v3 (iX v2 (-1))) v6) 1) = 0 → KX1_bestExchange l E Q 21 [(0, vR E 49), (1, vI v1), (2, vI v2), (3, vI v3), (4, vI v4), (5, vI v5), (6, vI (v6 + 1))] G D) ∧ ((iA (iSr (iA v3 (iX v2 (-1))) v6) 1) ≠ 0 → C0 l E MX5_worthOf 1 [vR E 42, vI v1, vI (iX (iX v2 (iSl 1 v5)) (iSl 1 v6))] G D (fun r12 D12 => ((-9223372036854775808 ≤ r12 ∧ r12 < 9223372036854775808)) ∧ ((r12 ≠ (D12 49 7) → (((D12 49 7) < r12 → KX1_bestExchange l E Q 21 [(0, vR E 49), (1, vI v1), (2, vI v2), (3, vI v3), (4, vI (iX (iX v2 (iSl 1 v5)) (iSl 1 v6))), (5, vI v5), (6, vI (v6 + 1))] G (upd2 D12 49 7 r12)) ∧ (r12 ≤ (D12 49 7) → KX1_bestExchange l E Q 21 [(0, vR E 49), (1, vI v1), (2, vI v2), (3, vI v3), (4, vI v4), (5, vI v5), (6, vI (v6 + 1))] G D12))) ∧ (r12 = (D12 49 7) → ((-2147483648 ≤ v4 ∧ v4 < 2147483648)) ∧ ((v4 = (-1) → (((D12 49 7) < r12 → KX1_bestExchange l E Q 21 [(0, vR E 49), (1, vI v1), (2, vI v2), (3, vI v3), (4, vI (iX (iX v2 (iSl 1 v5)) (iSl 1 v6))), (5, vI v5), (6, vI (v6 + 1))] G (upd2 D12 49 7 r12)) ∧ (r12 ≤ (D12 49 7) → KX1_bestExchange l E Q 21 [(0, vR E 49), (1, vI v1), (2, vI v2), (3, vI v3), (4, vI v4), (5, vI v5), (6, vI (v6 + 1))] G D12))) ∧ (v4 ≠ (-1) → ((v4 ≤ (iX (iX v2 (iSl 1 v5)) (iSl 1 v6)) → (((D12 49 7) < r12 → KX1_bestExchange l E Q 21 [(0, vR E 49), (1, vI v1), (2, vI v2), (3, vI v3), (4, vI (iX (iX v2 (iSl 1 v5)) (iSl 1 v6))), (5, vI v5), (6, vI (v6 + 1))] G (upd2 D12 49 7 r12)) ∧ (r12 ≤ (D12 49 7) → KX1_bestExchange l E Q 21 [(0, vR E 49), (1, vI v1), (2, vI v2), (3, vI v3), (4, vI v4), (5, vI v5), (6, vI (v6 + 1))] G D12))) ∧ ((iX (iX v2 (iSl 1 v5)) (iSl 1 v6)) < v4 → (((D12 49 7) < r12 → KX1_bestExchange l E Q 21 [(0, vR E 49), (1, vI v1), (2, vI v2), (3, vI v3), (4, vI (iX (iX v2 (iSl 1 v5)) (iSl 1 v6))), (5, vI v5), (6, vI (v6 + 1))] G (upd2 D12 49 7 r12)) ∧ (r12 ≤ (D12 49 7) → KX1_bestExchange l E Q 21 [(0, vR E 49), (1, vI v1), (2, vI v2), (3, vI v3), (4, vI (iX (iX v2 (iSl 1 v5)) (iSl 1 v6))), (5, vI v5), (6, vI (v6 + 1))] G (upd2 D12 49 7 r12))))))))))))))))) : KX1_bestExchange l E Q 21 [(0, vR E 49), (1, vI v1), (2, vI v2), (3, vI v3), (4, vI v4), (5, vI v5), (6, vI v6)] G D := by
  obtain ⟨s1, h⟩ := h
  refine go_iload 6 dX1_bestExchange_21 rfl ?_
  refine go_aload_n 0 dX1_bestExchange_23 rfl rfl ?_
  refine go_getR 0 f_X1_33 rfl (hL.1 49 _ rfl) (hL.2.1 49 0 _ rfl (by decide)) dX1_bestExchange_24 ?_
  refine go_getI 0 (i := 0) f_X1_84 rfl (hL.1 1 _ rfl) dX1_bestExchange_27 ?_
  refine go_rngI (c := 1) (i := 0) (hL.1 1 _ rfl) rfl (fun (q2 : -2147483648 ≤ (D 1 0) ∧ (D 1 0) < 2147483648) => ?_)
  refine go_icmp_ge 141 dX1_bestExchange_30 (by decide) s1 q2 (fun c3 => ?_) (fun c3 => ?_)
  · have h := h.1 c3
    refine go_iinc 5 [1, 2, 3, 4, 5, 0, 6] (L' := [(0, vR E 49), (1, vI v1), (2, vI v2), (3, vI v3), (4, vI v4), (5, vI (v5 + 1)), (6, vI v6)]) dX1_bestExchange_141 (by decide) rfl rfl ?_
    refine go_goto 6 dX1_bestExchange_144 (by decide) ?_
    refine go_sub [0, 1, 2, 3, 4, 5] (L' := [(0, vR E 49), (1, vI v1), (2, vI v2), (3, vI v3), (4, vI v4), (5, vI (v5 + 1))]) rfl ?_
    exact h
  · have h := h.2 c3
    refine go_iload_n 2 dX1_bestExchange_33 rfl rfl ?_
    refine go_iload 5 dX1_bestExchange_34 rfl ?_
    refine go_ishr dX1_bestExchange_36 ?_
    refine go_iconst dX1_bestExchange_37 ?_
    refine go_iand dX1_bestExchange_38 ?_
    refine go_if_eq 135 dX1_bestExchange_39 (by decide) (r32 _) (fun c6 => ?_) (fun c6 => ?_)
    · have h := h.1 c6
      refine go_iinc 6 [1, 2, 3, 4, 5, 6, 0] (L' := [(0, vR E 49), (1, vI v1), (2, vI v2), (3, vI v3), (4, vI v4), (5, vI v5), (6, vI (v6 + 1))]) dX1_bestExchange_135 (by decide) rfl rfl ?_
      refine go_goto 21 dX1_bestExchange_138 (by decide) ?_
      exact h
    · have h := h.2 c6
      refine go_iload_n 3 dX1_bestExchange_42 rfl rfl ?_
      refine go_iload_n 2 dX1_bestExchange_43 rfl rfl ?_
      refine go_iconst dX1_bestExchange_44 ?_
      refine go_ixor dX1_bestExchange_45 ?_
      refine go_iand dX1_bestExchange_46 ?_
      refine go_iload 6 dX1_bestExchange_47 rfl ?_
      refine go_ishr dX1_bestExchange_49 ?_
      refine go_iconst dX1_bestExchange_50 ?_
      refine go_iand dX1_bestExchange_51 ?_
      refine go_if_eq 135 dX1_bestExchange_52 (by decide) (r32 _) (fun c9 => ?_) (fun c9 => ?_)
      · have h := h.1 c9
        refine go_iinc 6 [1, 2, 3, 4, 5, 6, 0] (L' := [(0, vR E 49), (1, vI v1), (2, vI v2), (3, vI v3), (4, vI v4), (5, vI v5), (6, vI (v6 + 1))]) dX1_bestExchange_135 (by decide) rfl rfl ?_
        refine go_goto 21 dX1_bestExchange_138 (by decide) ?_
        exact h
      · have h := h.2 c9
        refine go_iload_n 2 dX1_bestExchange_55 rfl rfl ?_
        refine go_iconst dX1_bestExchange_56 ?_
        refine go_iload 5 dX1_bestExchange_57 rfl ?_
        refine go_ishl dX1_bestExchange_59 ?_
        refine go_ixor dX1_bestExchange_60 ?_
        refine go_iconst dX1_bestExchange_61 ?_
        refine go_iload 6 dX1_bestExchange_62 rfl ?_
        refine go_ishl dX1_bestExchange_64 ?_
        refine go_ixor dX1_bestExchange_65 ?_
        refine go_istore [1, 2, 3, 4, 5, 6, 7, 0] (L' := [(0, vR E 49), (1, vI v1), (2, vI v2), (3, vI v3), (4, vI v4), (5, vI v5), (6, vI v6), (7, vI (iX (iX v2 (iSl 1 v5)) (iSl 1 v6)))]) dX1_bestExchange_66 (by decide) rfl ?_
        refine go_aload_n 0 dX1_bestExchange_68 rfl rfl ?_
        refine go_getR 1 f_X1_37 rfl (hL.1 49 _ rfl) (hL.2.1 49 1 _ rfl (by decide)) dX1_bestExchange_69 ?_
        refine go_iload_n 1 dX1_bestExchange_72 rfl rfl ?_
        refine go_iload 7 dX1_bestExchange_73 rfl ?_
        refine go_vJ (M := MX5_worthOf) [vI v1, vI (iX (iX v2 (iSl 1 v5)) (iSl 1 v6))] [] mv_X1_74 (hL.1 42 _ rfl) rfl (by decide) ⟨Nat.le_of_ble_eq_true rfl, Nat.le_of_ble_eq_true rfl⟩ ⟨Nat.le_refl _, Nat.le_refl _⟩ rfl rfl (Nat.le_of_ble_eq_true rfl) dX1_bestExchange_75 h (fun r12 D12 h => ?_)
        obtain ⟨s13, h⟩ := h
        refine go_lstore [1, 2, 3, 4, 5, 6, 7, 8, 0] (L' := [(0, vR E 49), (1, vI v1), (2, vI v2), (3, vI v3), (4, vI v4), (5, vI v5), (6, vI v6), (7, vI (iX (iX v2 (iSl 1 v5)) (iSl 1 v6))), (8, vJ r12)]) dX1_bestExchange_78 (by decide) rfl ?_
        refine go_lload 8 dX1_bestExchange_80 rfl ?_
        refine go_aload_n 0 dX1_bestExchange_82 rfl rfl ?_
        refine go_getJ 7 (i := 7) f_X1_29 rfl (hL.1 49 _ rfl) dX1_bestExchange_83 ?_
        refine go_rngJ (c := 49) (i := 7) (hL.1 49 _ rfl) rfl (fun (q14 : -9223372036854775808 ≤ (D12 49 7) ∧ (D12 49 7) < 9223372036854775808) => ?_)
        refine go_lcmp_ne 107 dX1_bestExchange_86 dX1_bestExchange_87 (by decide) s13 q14 (fun c15 => ?_) (fun c15 => ?_)
        · have h := h.1 c15
          refine go_iconst dX1_bestExchange_107 ?_
          refine go_istore [1, 2, 3, 4, 5, 6, 7, 8, 9, 0] (L' := [(0, vR E 49), (1, vI v1), (2, vI v2), (3, vI v3), (4, vI v4), (5, vI v5), (6, vI v6), (7, vI (iX (iX v2 (iSl 1 v5)) (iSl 1 v6))), (8, vJ r12), (10, vI 0)]) dX1_bestExchange_108 (by decide) rfl ?_
          refine go_lload 8 dX1_bestExchange_110 rfl ?_
          refine go_aload_n 0 dX1_bestExchange_112 rfl rfl ?_
          refine go_getJ 7 (i := 7) f_X1_29 rfl (hL.1 49 _ rfl) dX1_bestExchange_113 ?_
          refine go_lcmp_gt 125 dX1_bestExchange_116 dX1_bestExchange_117 (by decide) s13 q14 (fun c17 => ?_) (fun c17 => ?_)
          · have h := h.1 c17
            refine go_aload_n 0 dX1_bestExchange_125 rfl rfl ?_
            refine go_lload 8 dX1_bestExchange_126 rfl ?_
            refine go_putJ 7 (i := 7) s13 f_X1_29 rfl (hL.1 49 _ rfl) dX1_bestExchange_128 ?_
            refine go_iload 7 dX1_bestExchange_131 rfl ?_
            refine go_istore [1, 2, 3, 4, 0, 5, 6, 7, 8, 9] (L' := [(0, vR E 49), (1, vI v1), (2, vI v2), (3, vI v3), (4, vI (iX (iX v2 (iSl 1 v5)) (iSl 1 v6))), (5, vI v5), (6, vI v6), (7, vI (iX (iX v2 (iSl 1 v5)) (iSl 1 v6))), (8, vJ r12), (10, vI 0)]) dX1_bestExchange_133 (by decide) rfl ?_
            refine go_iinc 6 [1, 2, 3, 4, 5, 6, 0, 7, 8, 9] (L' := [(0, vR E 49), (1, vI v1), (2, vI v2), (3, vI v3), (4, vI (iX (iX v2 (iSl 1 v5)) (iSl 1 v6))), (5, vI v5), (6, vI (v6 + 1)), (7, vI (iX (iX v2 (iSl 1 v5)) (iSl 1 v6))), (8, vJ r12), (10, vI 0)]) dX1_bestExchange_135 (by decide) rfl rfl ?_
            refine go_goto 21 dX1_bestExchange_138 (by decide) ?_
            refine go_sub [0, 1, 2, 3, 4, 5, 6] (L' := [(0, vR E 49), (1, vI v1), (2, vI v2), (3, vI v3), (4, vI (iX (iX v2 (iSl 1 v5)) (iSl 1 v6))), (5, vI v5), (6, vI (v6 + 1))]) rfl ?_
            exact h
          · have h := h.2 c17
            refine go_iload 9 dX1_bestExchange_120 rfl ?_
            refine go_if_eq 135 dX1_bestExchange_122 (by decide) (by decide) (fun _ => ?_) (fun hx => absurd hx (by decide))
            refine go_iinc 6 [1, 2, 3, 4, 5, 6, 0, 7, 8, 9] (L' := [(0, vR E 49), (1, vI v1), (2, vI v2), (3, vI v3), (4, vI v4), (5, vI v5), (6, vI (v6 + 1)), (7, vI (iX (iX v2 (iSl 1 v5)) (iSl 1 v6))), (8, vJ r12), (10, vI 0)]) dX1_bestExchange_135 (by decide) rfl rfl ?_
            refine go_goto 21 dX1_bestExchange_138 (by decide) ?_
            refine go_sub [0, 1, 2, 3, 4, 5, 6] (L' := [(0, vR E 49), (1, vI v1), (2, vI v2), (3, vI v3), (4, vI v4), (5, vI v5), (6, vI (v6 + 1))]) rfl ?_
            exact h
        · have h := h.2 c15
          obtain ⟨s20, h⟩ := h
          refine go_iload 4 dX1_bestExchange_90 rfl ?_
          refine go_iconst dX1_bestExchange_92 ?_
          refine go_icmp_eq 107 dX1_bestExchange_93 (by decide) s20 (by decide) (fun c21 => ?_) (fun c21 => ?_)
          · have h := h.1 c21
            refine go_iconst dX1_bestExchange_107 ?_
            refine go_istore [1, 2, 3, 4, 5, 6, 7, 8, 9, 0] (L' := [(0, vR E 49), (1, vI v1), (2, vI v2), (3, vI v3), (4, vI v4), (5, vI v5), (6, vI v6), (7, vI (iX (iX v2 (iSl 1 v5)) (iSl 1 v6))), (8, vJ r12), (10, vI 0)]) dX1_bestExchange_108 (by decide) rfl ?_
            refine go_lload 8 dX1_bestExchange_110 rfl ?_
            refine go_aload_n 0 dX1_bestExchange_112 rfl rfl ?_
            refine go_getJ 7 (i := 7) f_X1_29 rfl (hL.1 49 _ rfl) dX1_bestExchange_113 ?_
            refine go_lcmp_gt 125 dX1_bestExchange_116 dX1_bestExchange_117 (by decide) s13 q14 (fun c23 => ?_) (fun c23 => ?_)
            · have h := h.1 c23
              refine go_aload_n 0 dX1_bestExchange_125 rfl rfl ?_
              refine go_lload 8 dX1_bestExchange_126 rfl ?_
              refine go_putJ 7 (i := 7) s13 f_X1_29 rfl (hL.1 49 _ rfl) dX1_bestExchange_128 ?_
              refine go_iload 7 dX1_bestExchange_131 rfl ?_
              refine go_istore [1, 2, 3, 4, 0, 5, 6, 7, 8, 9] (L' := [(0, vR E 49), (1, vI v1), (2, vI v2), (3, vI v3), (4, vI (iX (iX v2 (iSl 1 v5)) (iSl 1 v6))), (5, vI v5), (6, vI v6), (7, vI (iX (iX v2 (iSl 1 v5)) (iSl 1 v6))), (8, vJ r12), (10, vI 0)]) dX1_bestExchange_133 (by decide) rfl ?_
              refine go_iinc 6 [1, 2, 3, 4, 5, 6, 0, 7, 8, 9] (L' := [(0, vR E 49), (1, vI v1), (2, vI v2), (3, vI v3), (4, vI (iX (iX v2 (iSl 1 v5)) (iSl 1 v6))), (5, vI v5), (6, vI (v6 + 1)), (7, vI (iX (iX v2 (iSl 1 v5)) (iSl 1 v6))), (8, vJ r12), (10, vI 0)]) dX1_bestExchange_135 (by decide) rfl rfl ?_
              refine go_goto 21 dX1_bestExchange_138 (by decide) ?_
              refine go_sub [0, 1, 2, 3, 4, 5, 6] (L' := [(0, vR E 49), (1, vI v1), (2, vI v2), (3, vI v3), (4, vI (iX (iX v2 (iSl 1 v5)) (iSl 1 v6))), (5, vI v5), (6, vI (v6 + 1))]) rfl ?_
              exact h
            · have h := h.2 c23
              refine go_iload 9 dX1_bestExchange_120 rfl ?_
              refine go_if_eq 135 dX1_bestExchange_122 (by decide) (by decide) (fun _ => ?_) (fun hx => absurd hx (by decide))
              refine go_iinc 6 [1, 2, 3, 4, 5, 6, 0, 7, 8, 9] (L' := [(0, vR E 49), (1, vI v1), (2, vI v2), (3, vI v3), (4, vI v4), (5, vI v5), (6, vI (v6 + 1)), (7, vI (iX (iX v2 (iSl 1 v5)) (iSl 1 v6))), (8, vJ r12), (10, vI 0)]) dX1_bestExchange_135 (by decide) rfl rfl ?_
              refine go_goto 21 dX1_bestExchange_138 (by decide) ?_
              refine go_sub [0, 1, 2, 3, 4, 5, 6] (L' := [(0, vR E 49), (1, vI v1), (2, vI v2), (3, vI v3), (4, vI v4), (5, vI v5), (6, vI (v6 + 1))]) rfl ?_
              exact h
          · have h := h.2 c21
            refine go_iload 7 dX1_bestExchange_96 rfl ?_
            refine go_iload 4 dX1_bestExchange_98 rfl ?_
            refine go_icmp_ge 107 dX1_bestExchange_100 (by decide) (r32 _) s20 (fun c27 => ?_) (fun c27 => ?_)
            · have h := h.1 c27
              refine go_iconst dX1_bestExchange_107 ?_
              refine go_istore [1, 2, 3, 4, 5, 6, 7, 8, 9, 0] (L' := [(0, vR E 49), (1, vI v1), (2, vI v2), (3, vI v3), (4, vI v4), (5, vI v5), (6, vI v6), (7, vI (iX (iX v2 (iSl 1 v5)) (iSl 1 v6))), (8, vJ r12), (10, vI 0)]) dX1_bestExchange_108 (by decide) rfl ?_
              refine go_lload 8 dX1_bestExchange_110 rfl ?_
              refine go_aload_n 0 dX1_bestExchange_112 rfl rfl ?_
              refine go_getJ 7 (i := 7) f_X1_29 rfl (hL.1 49 _ rfl) dX1_bestExchange_113 ?_
              refine go_lcmp_gt 125 dX1_bestExchange_116 dX1_bestExchange_117 (by decide) s13 q14 (fun c29 => ?_) (fun c29 => ?_)
              · have h := h.1 c29
                refine go_aload_n 0 dX1_bestExchange_125 rfl rfl ?_
                refine go_lload 8 dX1_bestExchange_126 rfl ?_
                refine go_putJ 7 (i := 7) s13 f_X1_29 rfl (hL.1 49 _ rfl) dX1_bestExchange_128 ?_
                refine go_iload 7 dX1_bestExchange_131 rfl ?_
                refine go_istore [1, 2, 3, 4, 0, 5, 6, 7, 8, 9] (L' := [(0, vR E 49), (1, vI v1), (2, vI v2), (3, vI v3), (4, vI (iX (iX v2 (iSl 1 v5)) (iSl 1 v6))), (5, vI v5), (6, vI v6), (7, vI (iX (iX v2 (iSl 1 v5)) (iSl 1 v6))), (8, vJ r12), (10, vI 0)]) dX1_bestExchange_133 (by decide) rfl ?_
                refine go_iinc 6 [1, 2, 3, 4, 5, 6, 0, 7, 8, 9] (L' := [(0, vR E 49), (1, vI v1), (2, vI v2), (3, vI v3), (4, vI (iX (iX v2 (iSl 1 v5)) (iSl 1 v6))), (5, vI v5), (6, vI (v6 + 1)), (7, vI (iX (iX v2 (iSl 1 v5)) (iSl 1 v6))), (8, vJ r12), (10, vI 0)]) dX1_bestExchange_135 (by decide) rfl rfl ?_
                refine go_goto 21 dX1_bestExchange_138 (by decide) ?_
                refine go_sub [0, 1, 2, 3, 4, 5, 6] (L' := [(0, vR E 49), (1, vI v1), (2, vI v2), (3, vI v3), (4, vI (iX (iX v2 (iSl 1 v5)) (iSl 1 v6))), (5, vI v5), (6, vI (v6 + 1))]) rfl ?_
                exact h
              · have h := h.2 c29
                refine go_iload 9 dX1_bestExchange_120 rfl ?_
                refine go_if_eq 135 dX1_bestExchange_122 (by decide) (by decide) (fun _ => ?_) (fun hx => absurd hx (by decide))
                refine go_iinc 6 [1, 2, 3, 4, 5, 6, 0, 7, 8, 9] (L' := [(0, vR E 49), (1, vI v1), (2, vI v2), (3, vI v3), (4, vI v4), (5, vI v5), (6, vI (v6 + 1)), (7, vI (iX (iX v2 (iSl 1 v5)) (iSl 1 v6))), (8, vJ r12), (10, vI 0)]) dX1_bestExchange_135 (by decide) rfl rfl ?_
                refine go_goto 21 dX1_bestExchange_138 (by decide) ?_
                refine go_sub [0, 1, 2, 3, 4, 5, 6] (L' := [(0, vR E 49), (1, vI v1), (2, vI v2), (3, vI v3), (4, vI v4), (5, vI v5), (6, vI (v6 + 1))]) rfl ?_
                exact h
            · have h := h.2 c27
              refine go_iconst dX1_bestExchange_103 ?_
              refine go_goto 108 dX1_bestExchange_104 (by decide) ?_
              refine go_istore [1, 2, 3, 4, 5, 6, 7, 8, 9, 0] (L' := [(0, vR E 49), (1, vI v1), (2, vI v2), (3, vI v3), (4, vI v4), (5, vI v5), (6, vI v6), (7, vI (iX (iX v2 (iSl 1 v5)) (iSl 1 v6))), (8, vJ r12), (10, vI 1)]) dX1_bestExchange_108 (by decide) rfl ?_
              refine go_lload 8 dX1_bestExchange_110 rfl ?_
              refine go_aload_n 0 dX1_bestExchange_112 rfl rfl ?_
              refine go_getJ 7 (i := 7) f_X1_29 rfl (hL.1 49 _ rfl) dX1_bestExchange_113 ?_
              refine go_lcmp_gt 125 dX1_bestExchange_116 dX1_bestExchange_117 (by decide) s13 q14 (fun c33 => ?_) (fun c33 => ?_)
              · have h := h.1 c33
                refine go_aload_n 0 dX1_bestExchange_125 rfl rfl ?_
                refine go_lload 8 dX1_bestExchange_126 rfl ?_
                refine go_putJ 7 (i := 7) s13 f_X1_29 rfl (hL.1 49 _ rfl) dX1_bestExchange_128 ?_
                refine go_iload 7 dX1_bestExchange_131 rfl ?_
                refine go_istore [1, 2, 3, 4, 0, 5, 6, 7, 8, 9] (L' := [(0, vR E 49), (1, vI v1), (2, vI v2), (3, vI v3), (4, vI (iX (iX v2 (iSl 1 v5)) (iSl 1 v6))), (5, vI v5), (6, vI v6), (7, vI (iX (iX v2 (iSl 1 v5)) (iSl 1 v6))), (8, vJ r12), (10, vI 1)]) dX1_bestExchange_133 (by decide) rfl ?_
                refine go_iinc 6 [1, 2, 3, 4, 5, 6, 0, 7, 8, 9] (L' := [(0, vR E 49), (1, vI v1), (2, vI v2), (3, vI v3), (4, vI (iX (iX v2 (iSl 1 v5)) (iSl 1 v6))), (5, vI v5), (6, vI (v6 + 1)), (7, vI (iX (iX v2 (iSl 1 v5)) (iSl 1 v6))), (8, vJ r12), (10, vI 1)]) dX1_bestExchange_135 (by decide) rfl rfl ?_
                refine go_goto 21 dX1_bestExchange_138 (by decide) ?_
                refine go_sub [0, 1, 2, 3, 4, 5, 6] (L' := [(0, vR E 49), (1, vI v1), (2, vI v2), (3, vI v3), (4, vI (iX (iX v2 (iSl 1 v5)) (iSl 1 v6))), (5, vI v5), (6, vI (v6 + 1))]) rfl ?_
                exact h
              · have h := h.2 c33
                refine go_iload 9 dX1_bestExchange_120 rfl ?_
                refine go_if_eq 135 dX1_bestExchange_122 (by decide) (by decide) (fun hx => absurd hx (by decide)) (fun _ => ?_)
                refine go_aload_n 0 dX1_bestExchange_125 rfl rfl ?_
                refine go_lload 8 dX1_bestExchange_126 rfl ?_
                refine go_putJ 7 (i := 7) s13 f_X1_29 rfl (hL.1 49 _ rfl) dX1_bestExchange_128 ?_
                refine go_iload 7 dX1_bestExchange_131 rfl ?_
                refine go_istore [1, 2, 3, 4, 0, 5, 6, 7, 8, 9] (L' := [(0, vR E 49), (1, vI v1), (2, vI v2), (3, vI v3), (4, vI (iX (iX v2 (iSl 1 v5)) (iSl 1 v6))), (5, vI v5), (6, vI v6), (7, vI (iX (iX v2 (iSl 1 v5)) (iSl 1 v6))), (8, vJ r12), (10, vI 1)]) dX1_bestExchange_133 (by decide) rfl ?_
                refine go_iinc 6 [1, 2, 3, 4, 5, 6, 0, 7, 8, 9] (L' := [(0, vR E 49), (1, vI v1), (2, vI v2), (3, vI v3), (4, vI (iX (iX v2 (iSl 1 v5)) (iSl 1 v6))), (5, vI v5), (6, vI (v6 + 1)), (7, vI (iX (iX v2 (iSl 1 v5)) (iSl 1 v6))), (8, vJ r12), (10, vI 1)]) dX1_bestExchange_135 (by decide) rfl rfl ?_
                refine go_goto 21 dX1_bestExchange_138 (by decide) ?_
                refine go_sub [0, 1, 2, 3, 4, 5, 6] (L' := [(0, vR E 49), (1, vI v1), (2, vI v2), (3, vI v3), (4, vI (iX (iX v2 (iSl 1 v5)) (iSl 1 v6))), (5, vI v5), (6, vI (v6 + 1))]) rfl ?_
                exact h
theorem s_X1_climbFrom {l : Launch} {E : Ev} {Q : Int → Sh → Dm → Prop} {G : Sh} {D : Dm} (hL : Lay G) {v1 : Int}  (h : C0 l E MX8_openTo 0 [vR E 1, vI v1] G D (fun r2 D2 => C0 l E MX8_heldBy 0 [vR E 1, vI v1] G D2 (fun r4 D4 => C0 l E MX5_worthOf 1 [vR E 42, vI v1, vI r4] G D4 (fun r6 D6 => ((-9223372036854775808 ≤ r6 ∧ r6 < 9223372036854775808)) ∧ KX1_climbFrom l E Q 39 [(0, vR E 49), (1, vI v1), (2, vI r2), (3, vI r4), (4, vI 0)] G (upd2 (upd2 D6 49 7 r6) 49 6 0))))) : Ct l E MX1_climbFrom 0 0 0 [vR E 49, vI v1] G D Q := by
  refine Ct.of (by decide) (Nat.le_of_ble_eq_true rfl) ?_
  show KX1_climbFrom l E Q 0 [(0, vR E 49), (1, vI v1)] G D
  refine go_aload_n 0 dX1_climbFrom_0 rfl rfl ?_
  refine go_getR 0 f_X1_33 rfl (hL.1 49 _ rfl) (hL.2.1 49 0 _ rfl (by decide)) dX1_climbFrom_1 ?_
  refine go_iload_n 1 dX1_climbFrom_4 rfl rfl ?_
  refine go_vI (M := MX8_openTo) [vI v1] [] mv_X1_41 (hL.1 1 _ rfl) rfl (by decide) ⟨Nat.le_of_ble_eq_true rfl, Nat.le_of_ble_eq_true rfl⟩ ⟨Nat.le_refl _, Nat.le_refl _⟩ rfl rfl (Nat.le_of_ble_eq_true rfl) dX1_climbFrom_5 h (fun r2 D2 h => ?_)
  refine go_istore_n [1, 2, 0] (L' := [(0, vR E 49), (1, vI v1), (2, vI r2)]) dX1_climbFrom_8 rfl (by decide) rfl ?_
  refine go_aload_n 0 dX1_climbFrom_9 rfl rfl ?_
  refine go_getR 0 f_X1_33 rfl (hL.1 49 _ rfl) (hL.2.1 49 0 _ rfl (by decide)) dX1_climbFrom_10 ?_
  refine go_iload_n 1 dX1_climbFrom_13 rfl rfl ?_
  refine go_vI (M := MX8_heldBy) [vI v1] [] mv_X1_71 (hL.1 1 _ rfl) rfl (by decide) ⟨Nat.le_of_ble_eq_true rfl, Nat.le_of_ble_eq_true rfl⟩ ⟨Nat.le_refl _, Nat.le_refl _⟩ rfl rfl (Nat.le_of_ble_eq_true rfl) dX1_climbFrom_14 h (fun r4 D4 h => ?_)
  refine go_istore_n [1, 2, 3, 0] (L' := [(0, vR E 49), (1, vI v1), (2, vI r2), (3, vI r4)]) dX1_climbFrom_17 rfl (by decide) rfl ?_
  refine go_aload_n 0 dX1_climbFrom_18 rfl rfl ?_
  refine go_aload_n 0 dX1_climbFrom_19 rfl rfl ?_
  refine go_getR 1 f_X1_37 rfl (hL.1 49 _ rfl) (hL.2.1 49 1 _ rfl (by decide)) dX1_climbFrom_20 ?_
  refine go_iload_n 1 dX1_climbFrom_23 rfl rfl ?_
  refine go_iload_n 3 dX1_climbFrom_24 rfl rfl ?_
  refine go_vJ (M := MX5_worthOf) [vI v1, vI r4] [vR E 49] mv_X1_74 (hL.1 42 _ rfl) rfl (by decide) ⟨Nat.le_of_ble_eq_true rfl, Nat.le_of_ble_eq_true rfl⟩ ⟨Nat.le_refl _, Nat.le_refl _⟩ rfl rfl (Nat.le_of_ble_eq_true rfl) dX1_climbFrom_25 h (fun r6 D6 h => ?_)
  obtain ⟨s7, h⟩ := h
  refine go_putJ 7 (i := 7) s7 f_X1_29 rfl (hL.1 49 _ rfl) dX1_climbFrom_28 ?_
  refine go_aload_n 0 dX1_climbFrom_31 rfl rfl ?_
  refine go_iconst dX1_climbFrom_32 ?_
  refine go_putI 6 (i := 6) (by decide) f_X1_26 rfl (hL.1 49 _ rfl) dX1_climbFrom_33 ?_
  refine go_iconst dX1_climbFrom_36 ?_
  refine go_istore [1, 2, 3, 4, 0] (L' := [(0, vR E 49), (1, vI v1), (2, vI r2), (3, vI r4), (4, vI 0)]) dX1_climbFrom_37 (by decide) rfl ?_
  exact h
theorem s_X1_climbFrom_39 {l : Launch} {E : Ev} {Q : Int → Sh → Dm → Prop} {G : Sh} {D : Dm} (hL : Lay G) {v1 v2 v3 v4 : Int}  (h : ((-2147483648 ≤ v4 ∧ v4 < 2147483648)) ∧ (((iSl 1 (D 1 0)) ≤ v4 → Q v3 G D) ∧ (v4 < (iSl 1 (D 1 0)) → C0 l E MX1_bestExchange 0 [vR E 49, vI v1, vI v3, vI v2] G D (fun r6 D6 => ((-2147483648 ≤ r6 ∧ r6 < 2147483648)) ∧ ((r6 ≠ (-1) → ((-2147483648 ≤ ((D6 49 6) + 1) ∧ ((D6 49 6) + 1) < 2147483648)) ∧ KX1_climbFrom l E Q 39 [(0, vR E 49), (1, vI v1), (2, vI v2), (3, vI r6), (4, vI (v4 + 1))] G (upd2 D6 49 6 ((D6 49 6) + 1))) ∧ (r6 = (-1) → Q v3 G D6)))))) : KX1_climbFrom l E Q 39 [(0, vR E 49), (1, vI v1), (2, vI v2), (3, vI v3), (4, vI v4)] G D := by
  obtain ⟨s1, h⟩ := h
  refine go_iload 4 dX1_climbFrom_39 rfl ?_
  refine go_aload_n 0 dX1_climbFrom_41 rfl rfl ?_
  refine go_getR 0 f_X1_33 rfl (hL.1 49 _ rfl) (hL.2.1 49 0 _ rfl (by decide)) dX1_climbFrom_42 ?_
  refine go_vIp (M := MX8_sets) [] [vI v4] mv_X1_77 (hL.1 1 _ rfl) rfl (by decide) ⟨Nat.le_of_ble_eq_true rfl, Nat.le_of_ble_eq_true rfl⟩ ⟨Nat.le_refl _, Nat.le_refl _⟩ rfl rfl (Nat.le_of_ble_eq_true rfl) dX1_climbFrom_45 (p_X8_sets hL) ?_
  refine go_icmp_ge 88 dX1_climbFrom_48 (by decide) s1 (r32 _) (fun c3 => ?_) (fun c3 => ?_)
  · have h := h.1 c3
    refine go_iload_n 3 dX1_climbFrom_88 rfl rfl ?_
    exact go_ireturn (Nat.le_refl _) (Nat.le_refl _) rfl dX1_climbFrom_89 h
  · have h := h.2 c3
    refine go_aload_n 0 dX1_climbFrom_51 rfl rfl ?_
    refine go_iload_n 1 dX1_climbFrom_52 rfl rfl ?_
    refine go_iload_n 3 dX1_climbFrom_53 rfl rfl ?_
    refine go_iload_n 2 dX1_climbFrom_54 rfl rfl ?_
    refine go_vI (M := MX1_bestExchange) [vI v1, vI v3, vI v2] [] mv_X1_80 (hL.1 49 _ rfl) rfl (by decide) ⟨Nat.le_of_ble_eq_true rfl, Nat.le_of_ble_eq_true rfl⟩ ⟨Nat.le_refl _, Nat.le_refl _⟩ rfl rfl (Nat.le_of_ble_eq_true rfl) dX1_climbFrom_55 h (fun r6 D6 h => ?_)
    obtain ⟨s7, h⟩ := h
    refine go_istore [1, 2, 3, 4, 5, 0] (L' := [(0, vR E 49), (1, vI v1), (2, vI v2), (3, vI v3), (4, vI v4), (5, vI r6)]) dX1_climbFrom_58 (by decide) rfl ?_
    refine go_iload 5 dX1_climbFrom_60 rfl ?_
    refine go_iconst dX1_climbFrom_62 ?_
    refine go_icmp_ne 69 dX1_climbFrom_63 (by decide) s7 (by decide) (fun c8 => ?_) (fun c8 => ?_)
    · have h := h.1 c8
      obtain ⟨s9, h⟩ := h
      refine go_iload 5 dX1_climbFrom_69 rfl ?_
      refine go_istore_n [1, 2, 3, 0, 4, 5] (L' := [(0, vR E 49), (1, vI v1), (2, vI v2), (3, vI r6), (4, vI v4), (5, vI r6)]) dX1_climbFrom_71 rfl (by decide) rfl ?_
      refine go_aload_n 0 dX1_climbFrom_72 rfl rfl ?_
      refine go_dup rfl dX1_climbFrom_73 ?_
      refine go_getI 6 (i := 6) f_X1_26 rfl (hL.1 49 _ rfl) dX1_climbFrom_74 ?_
      refine go_iconst dX1_climbFrom_77 ?_
      refine go_iadd dX1_climbFrom_78 ?_
      refine go_putI 6 (i := 6) s9 f_X1_26 rfl (hL.1 49 _ rfl) dX1_climbFrom_79 ?_
      refine go_iinc 4 [1, 2, 3, 4, 0, 5] (L' := [(0, vR E 49), (1, vI v1), (2, vI v2), (3, vI r6), (4, vI (v4 + 1)), (5, vI r6)]) dX1_climbFrom_82 (by decide) rfl rfl ?_
      refine go_goto 39 dX1_climbFrom_85 (by decide) ?_
      refine go_sub [0, 1, 2, 3, 4] (L' := [(0, vR E 49), (1, vI v1), (2, vI v2), (3, vI r6), (4, vI (v4 + 1))]) rfl ?_
      exact h
    · have h := h.2 c8
      refine go_goto 88 dX1_climbFrom_66 (by decide) ?_
      refine go_iload_n 3 dX1_climbFrom_88 rfl rfl ?_
      exact go_ireturn (Nat.le_refl _) (Nat.le_refl _) rfl dX1_climbFrom_89 h
theorem s_X2_fillRow {l : Launch} {E : Ev} {Q : Int → Sh → Dm → Prop} {G : Sh} {D : Dm} (hL : Lay G)  (h : KX2_fillRow l E Q 7 [(0, vR E 66), (1, vI 0)] G (upd2 D 66 3 0)) : Ct l E MX2_fillRow 2 0 0 [vR E 66] G D Q := by
  refine Ct.of (by decide) (Nat.le_of_ble_eq_true rfl) ?_
  show KX2_fillRow l E Q 0 [(0, vR E 66)] G D
  refine go_aload_n 0 dX2_fillRow_0 rfl rfl ?_
  refine go_iconst dX2_fillRow_1 ?_
  refine go_putI 3 (i := 3) (by decide) f_X2_15 rfl (hL.1 66 _ rfl) dX2_fillRow_2 ?_
  refine go_iconst dX2_fillRow_5 ?_
  refine go_istore_n [1, 0] (L' := [(0, vR E 66), (1, vI 0)]) dX2_fillRow_6 rfl (by decide) rfl ?_
  exact h
theorem s_X2_fillRow_7 {l : Launch} {E : Ev} {Q : Int → Sh → Dm → Prop} {G : Sh} {D : Dm} (hL : Lay G) {v1 : Int}  (h : ((-2147483648 ≤ v1 ∧ v1 < 2147483648)) ∧ (((D 1 0) ≤ v1 → Q 0 G D) ∧ (v1 < (D 1 0) → ((0 ≤ v1 ∧ v1 < 10)) ∧ (((D 6 v1) = (-1) → KX2_fillRow l E Q 7 [(0, vR E 66), (1, vI (v1 + 1))] G D) ∧ ((D 6 v1) ≠ (-1) → ((0 ≤ (D 66 3) ∧ (D 66 3) < 10) ∧ (-2147483648 ≤ ((D 66 3) + 1) ∧ ((D 66 3) + 1) < 2147483648)) ∧ KX2_fillRow l E Q 7 [(0, vR E 66), (1, vI (v1 + 1))] G (upd2 (upd2 D 67 (D 66 3) v1) 66 3 ((D 66 3) + 1))))))) : KX2_fillRow l E Q 7 [(0, vR E 66), (1, vI v1)] G D := by
  obtain ⟨s1, h⟩ := h
  refine go_iload_n 1 dX2_fillRow_7 rfl rfl ?_
  refine go_aload_n 0 dX2_fillRow_8 rfl rfl ?_
  refine go_getR 0 f_X2_22 rfl (hL.1 66 _ rfl) (hL.2.1 66 0 _ rfl (by decide)) dX2_fillRow_9 ?_
  refine go_getI 0 (i := 0) f_X2_61 rfl (hL.1 1 _ rfl) dX2_fillRow_12 ?_
  refine go_rngI (c := 1) (i := 0) (hL.1 1 _ rfl) rfl (fun (q2 : -2147483648 ≤ (D 1 0) ∧ (D 1 0) < 2147483648) => ?_)
  refine go_icmp_ge 57 dX2_fillRow_15 (by decide) s1 q2 (fun c3 => ?_) (fun c3 => ?_)
  · have h := h.1 c3
    exact go_return (Nat.le_refl _) (Nat.le_refl _) rfl dX2_fillRow_57 h
  · have h := h.2 c3
    obtain ⟨s5, h⟩ := h
    refine go_aload_n 0 dX2_fillRow_18 rfl rfl ?_
    refine go_getR 0 f_X2_22 rfl (hL.1 66 _ rfl) (hL.2.1 66 0 _ rfl (by decide)) dX2_fillRow_19 ?_
    refine go_getR 9 f_X2_64 rfl (hL.1 1 _ rfl) (hL.2.1 1 9 _ rfl (by decide)) dX2_fillRow_22 ?_
    refine go_iload_n 1 dX2_fillRow_25 rfl rfl ?_
    refine go_iaload (hL.1 6 _ rfl) (b := 10) rfl (by decide) s5 dX2_fillRow_26 ?_
    refine go_iconst dX2_fillRow_27 ?_
    refine go_rngI (c := 6) (i := v1) (hL.1 6 _ rfl) rfl (fun (q6 : -2147483648 ≤ (D 6 v1) ∧ (D 6 v1) < 2147483648) => ?_)
    refine go_icmp_eq 51 dX2_fillRow_28 (by decide) q6 (by decide) (fun c7 => ?_) (fun c7 => ?_)
    · have h := h.1 c7
      refine go_iinc 1 [1, 0] (L' := [(0, vR E 66), (1, vI (v1 + 1))]) dX2_fillRow_51 (by decide) rfl rfl ?_
      refine go_goto 7 dX2_fillRow_54 (by decide) ?_
      exact h
    · have h := h.2 c7
      obtain ⟨s9, h⟩ := h
      refine go_aload_n 0 dX2_fillRow_31 rfl rfl ?_
      refine go_getR 2 f_X2_9 rfl (hL.1 66 _ rfl) (hL.2.1 66 2 _ rfl (by decide)) dX2_fillRow_32 ?_
      refine go_aload_n 0 dX2_fillRow_35 rfl rfl ?_
      refine go_getI 3 (i := 3) f_X2_15 rfl (hL.1 66 _ rfl) dX2_fillRow_36 ?_
      refine go_iload_n 1 dX2_fillRow_39 rfl rfl ?_
      refine go_iastore (hL.1 67 _ rfl) (b := 10) rfl (by decide) s9.1 s1 dX2_fillRow_40 ?_
      refine go_aload_n 0 dX2_fillRow_41 rfl rfl ?_
      refine go_dup rfl dX2_fillRow_42 ?_
      refine go_getI 3 (i := 3) f_X2_15 rfl (hL.1 66 _ rfl) dX2_fillRow_43 ?_
      refine go_iconst dX2_fillRow_46 ?_
      refine go_iadd dX2_fillRow_47 ?_
      refine go_putI 3 (i := 3) s9.2 f_X2_15 rfl (hL.1 66 _ rfl) dX2_fillRow_48 ?_
      refine go_iinc 1 [1, 0] (L' := [(0, vR E 66), (1, vI (v1 + 1))]) dX2_fillRow_51 (by decide) rfl rfl ?_
      refine go_goto 7 dX2_fillRow_54 (by decide) ?_
      exact h
theorem s_X2_standsAhead {l : Launch} {E : Ev} {Q : Int → Sh → Dm → Prop} {G : Sh} {D : Dm} (hL : Lay G) {v1 v2 : Int}  (h : ((0 ≤ v1 ∧ v1 < 10) ∧ (0 ≤ v2 ∧ v2 < 10)) ∧ (((D 2 v1) = (D 2 v2) → (((D 3 v2) ≤ (D 3 v1) → Q 0 G D) ∧ ((D 3 v1) < (D 3 v2) → Q 1 G D))) ∧ ((D 2 v1) ≠ (D 2 v2) → (((D 2 v2) ≤ (D 2 v1) → Q 0 G D) ∧ ((D 2 v1) < (D 2 v2) → Q 1 G D))))) : Ct l E MX2_standsAhead 0 0 0 [vR E 66, vI v1, vI v2] G D Q := by
  refine Ct.of (by decide) (Nat.le_of_ble_eq_true rfl) ?_
  show KX2_standsAhead l E Q 0 [(0, vR E 66), (1, vI v1), (2, vI v2)] G D
  obtain ⟨s1, h⟩ := h
  refine go_aload_n 0 dX2_standsAhead_0 rfl rfl ?_
  refine go_getR 0 f_X2_22 rfl (hL.1 66 _ rfl) (hL.2.1 66 0 _ rfl (by decide)) dX2_standsAhead_1 ?_
  refine go_getR 5 f_X2_75 rfl (hL.1 1 _ rfl) (hL.2.1 1 5 _ rfl (by decide)) dX2_standsAhead_4 ?_
  refine go_iload_n 1 dX2_standsAhead_7 rfl rfl ?_
  refine go_iaload (hL.1 2 _ rfl) (b := 10) rfl (by decide) s1.1 dX2_standsAhead_8 ?_
  refine go_aload_n 0 dX2_standsAhead_9 rfl rfl ?_
  refine go_getR 0 f_X2_22 rfl (hL.1 66 _ rfl) (hL.2.1 66 0 _ rfl (by decide)) dX2_standsAhead_10 ?_
  refine go_getR 5 f_X2_75 rfl (hL.1 1 _ rfl) (hL.2.1 1 5 _ rfl (by decide)) dX2_standsAhead_13 ?_
  refine go_iload_n 2 dX2_standsAhead_16 rfl rfl ?_
  refine go_iaload (hL.1 2 _ rfl) (b := 10) rfl (by decide) s1.2 dX2_standsAhead_17 ?_
  refine go_rngI (c := 2) (i := v1) (hL.1 2 _ rfl) rfl (fun (q2 : -2147483648 ≤ (D 2 v1) ∧ (D 2 v1) < 2147483648) => ?_)
  refine go_rngI (c := 2) (i := v2) (hL.1 2 _ rfl) rfl (fun (q3 : -2147483648 ≤ (D 2 v2) ∧ (D 2 v2) < 2147483648) => ?_)
  refine go_icmp_eq 50 dX2_standsAhead_18 (by decide) q2 q3 (fun c4 => ?_) (fun c4 => ?_)
  · have h := h.1 c4
    refine go_aload_n 0 dX2_standsAhead_50 rfl rfl ?_
    refine go_getR 0 f_X2_22 rfl (hL.1 66 _ rfl) (hL.2.1 66 0 _ rfl (by decide)) dX2_standsAhead_51 ?_
    refine go_getR 6 f_X2_78 rfl (hL.1 1 _ rfl) (hL.2.1 1 6 _ rfl (by decide)) dX2_standsAhead_54 ?_
    refine go_iload_n 1 dX2_standsAhead_57 rfl rfl ?_
    refine go_iaload (hL.1 3 _ rfl) (b := 10) rfl (by decide) s1.1 dX2_standsAhead_58 ?_
    refine go_aload_n 0 dX2_standsAhead_59 rfl rfl ?_
    refine go_getR 0 f_X2_22 rfl (hL.1 66 _ rfl) (hL.2.1 66 0 _ rfl (by decide)) dX2_standsAhead_60 ?_
    refine go_getR 6 f_X2_78 rfl (hL.1 1 _ rfl) (hL.2.1 1 6 _ rfl (by decide)) dX2_standsAhead_63 ?_
    refine go_iload_n 2 dX2_standsAhead_66 rfl rfl ?_
    refine go_iaload (hL.1 3 _ rfl) (b := 10) rfl (by decide) s1.2 dX2_standsAhead_67 ?_
    refine go_rngI (c := 3) (i := v1) (hL.1 3 _ rfl) rfl (fun (q6 : -2147483648 ≤ (D 3 v1) ∧ (D 3 v1) < 2147483648) => ?_)
    refine go_rngI (c := 3) (i := v2) (hL.1 3 _ rfl) rfl (fun (q7 : -2147483648 ≤ (D 3 v2) ∧ (D 3 v2) < 2147483648) => ?_)
    refine go_icmp_ge 75 dX2_standsAhead_68 (by decide) q6 q7 (fun c8 => ?_) (fun c8 => ?_)
    · have h := h.1 c8
      refine go_iconst dX2_standsAhead_75 ?_
      exact go_zreturn (Nat.le_refl _) (Nat.le_refl _) rfl (by decide) dX2_standsAhead_76 h
    · have h := h.2 c8
      refine go_iconst dX2_standsAhead_71 ?_
      refine go_goto 76 dX2_standsAhead_72 (by decide) ?_
      exact go_zreturn (Nat.le_refl _) (Nat.le_refl _) rfl (by decide) dX2_standsAhead_76 h
  · have h := h.2 c4
    refine go_aload_n 0 dX2_standsAhead_21 rfl rfl ?_
    refine go_getR 0 f_X2_22 rfl (hL.1 66 _ rfl) (hL.2.1 66 0 _ rfl (by decide)) dX2_standsAhead_22 ?_
    refine go_getR 5 f_X2_75 rfl (hL.1 1 _ rfl) (hL.2.1 1 5 _ rfl (by decide)) dX2_standsAhead_25 ?_
    refine go_iload_n 1 dX2_standsAhead_28 rfl rfl ?_
    refine go_iaload (hL.1 2 _ rfl) (b := 10) rfl (by decide) s1.1 dX2_standsAhead_29 ?_
    refine go_aload_n 0 dX2_standsAhead_30 rfl rfl ?_
    refine go_getR 0 f_X2_22 rfl (hL.1 66 _ rfl) (hL.2.1 66 0 _ rfl (by decide)) dX2_standsAhead_31 ?_
    refine go_getR 5 f_X2_75 rfl (hL.1 1 _ rfl) (hL.2.1 1 5 _ rfl (by decide)) dX2_standsAhead_34 ?_
    refine go_iload_n 2 dX2_standsAhead_37 rfl rfl ?_
    refine go_iaload (hL.1 2 _ rfl) (b := 10) rfl (by decide) s1.2 dX2_standsAhead_38 ?_
    refine go_icmp_ge 46 dX2_standsAhead_39 (by decide) q2 q3 (fun c12 => ?_) (fun c12 => ?_)
    · have h := h.1 c12
      refine go_iconst dX2_standsAhead_46 ?_
      refine go_goto 76 dX2_standsAhead_47 (by decide) ?_
      exact go_zreturn (Nat.le_refl _) (Nat.le_refl _) rfl (by decide) dX2_standsAhead_76 h
    · have h := h.2 c12
      refine go_iconst dX2_standsAhead_42 ?_
      refine go_goto 76 dX2_standsAhead_43 (by decide) ?_
      exact go_zreturn (Nat.le_refl _) (Nat.le_refl _) rfl (by decide) dX2_standsAhead_76 h
theorem p_X2_standsAhead {l : Launch} {E : Ev} {G : Sh} {D : Dm} (hL : Lay G) {v1 v2 : Int}  (q0 : 0 ≤ v1 ∧ v1 < 10) (q1 : 0 ≤ v2 ∧ v2 < 10) : C0 l E MX2_standsAhead 0 [vR E 66, vI v1, vI v2] G D (fun r D' => r = (if (((D 2 v1) = (D 2 v2)) ∧ ((D 3 v1) < (D 3 v2)) ∨ ((D 2 v1) ≠ (D 2 v2)) ∧ ((D 2 v1) < (D 2 v2))) then 1 else 0) ∧ D' = D) := by
  refine s_X2_standsAhead hL ?_
  refine ⟨⟨q0, q1⟩, ?_⟩
  refine ⟨fun hc => ?_, fun hc => ?_⟩
  · refine ⟨fun hc => ?_, fun hc => ?_⟩
    · refine ⟨rfl, ?_, rfl⟩
      (split <;> first | rfl | (exfalso; simp_all; done) | omega | simp_all)
    · refine ⟨rfl, ?_, rfl⟩
      (split <;> first | rfl | (exfalso; simp_all; done) | omega | simp_all)
  · refine ⟨fun hc => ?_, fun hc => ?_⟩
    · refine ⟨rfl, ?_, rfl⟩
      (split <;> first | rfl | (exfalso; simp_all; done) | omega | simp_all)
    · refine ⟨rfl, ?_, rfl⟩
      (split <;> first | rfl | (exfalso; simp_all; done) | omega | simp_all)
theorem s_X2_exchange {l : Launch} {E : Ev} {Q : Int → Sh → Dm → Prop} {G : Sh} {D : Dm} (hL : Lay G) {v1 v2 : Int}  (h : ((0 ≤ v1 ∧ v1 < 10) ∧ (0 ≤ v2 ∧ v2 < 10) ∧ (-2147483648 ≤ (D 67 v1) ∧ (D 67 v1) < 2147483648)) ∧ Q 0 G (upd2 (upd2 D 67 v1 (D 67 v2)) 67 v2 (D 67 v1))) : Ct l E MX2_exchange 2 0 0 [vR E 66, vI v1, vI v2] G D Q := by
  refine Ct.of (by decide) (Nat.le_of_ble_eq_true rfl) ?_
  show KX2_exchange l E Q 0 [(0, vR E 66), (1, vI v1), (2, vI v2)] G D
  obtain ⟨s1, h⟩ := h
  refine go_aload_n 0 dX2_exchange_0 rfl rfl ?_
  refine go_getR 2 f_X2_9 rfl (hL.1 66 _ rfl) (hL.2.1 66 2 _ rfl (by decide)) dX2_exchange_1 ?_
  refine go_iload_n 1 dX2_exchange_4 rfl rfl ?_
  refine go_iaload (hL.1 67 _ rfl) (b := 10) rfl (by decide) s1.1 dX2_exchange_5 ?_
  refine go_istore_n [1, 2, 3, 0] (L' := [(0, vR E 66), (1, vI v1), (2, vI v2), (3, vI (D 67 v1))]) dX2_exchange_6 rfl (by decide) rfl ?_
  refine go_aload_n 0 dX2_exchange_7 rfl rfl ?_
  refine go_getR 2 f_X2_9 rfl (hL.1 66 _ rfl) (hL.2.1 66 2 _ rfl (by decide)) dX2_exchange_8 ?_
  refine go_iload_n 1 dX2_exchange_11 rfl rfl ?_
  refine go_aload_n 0 dX2_exchange_12 rfl rfl ?_
  refine go_getR 2 f_X2_9 rfl (hL.1 66 _ rfl) (hL.2.1 66 2 _ rfl (by decide)) dX2_exchange_13 ?_
  refine go_iload_n 2 dX2_exchange_16 rfl rfl ?_
  refine go_iaload (hL.1 67 _ rfl) (b := 10) rfl (by decide) s1.2.1 dX2_exchange_17 ?_
  refine go_rngI (c := 67) (i := v2) (hL.1 67 _ rfl) rfl (fun (q2 : -2147483648 ≤ (D 67 v2) ∧ (D 67 v2) < 2147483648) => ?_)
  refine go_iastore (hL.1 67 _ rfl) (b := 10) rfl (by decide) s1.1 q2 dX2_exchange_18 ?_
  refine go_aload_n 0 dX2_exchange_19 rfl rfl ?_
  refine go_getR 2 f_X2_9 rfl (hL.1 66 _ rfl) (hL.2.1 66 2 _ rfl (by decide)) dX2_exchange_20 ?_
  refine go_iload_n 2 dX2_exchange_23 rfl rfl ?_
  refine go_iload_n 3 dX2_exchange_24 rfl rfl ?_
  refine go_iastore (hL.1 67 _ rfl) (b := 10) rfl (by decide) s1.2.1 s1.2.2 dX2_exchange_25 ?_
  exact go_return (Nat.le_refl _) (Nat.le_refl _) rfl dX2_exchange_26 h
theorem p_X2_exchange {l : Launch} {E : Ev} {G : Sh} {D : Dm} (hL : Lay G) {v1 v2 : Int}  (q0 : 0 ≤ v1 ∧ v1 < 10) (q1 : 0 ≤ v2 ∧ v2 < 10) (q2 : -2147483648 ≤ (D 67 v1) ∧ (D 67 v1) < 2147483648) : C0 l E MX2_exchange 2 [vR E 66, vI v1, vI v2] G D (fun r D' => r = 0 ∧ D' = (upd2 (upd2 D 67 v1 (D 67 v2)) 67 v2 (D 67 v1))) := s_X2_exchange hL ⟨⟨q0, q1, q2⟩, ⟨rfl, rfl, rfl⟩⟩
theorem s_X2_sortRow {l : Launch} {E : Ev} {Q : Int → Sh → Dm → Prop} {G : Sh} {D : Dm} (hL : Lay G)  (h : KX2_sortRow l E Q 2 [(0, vR E 66), (1, vI 1)] G D) : Ct l E MX2_sortRow 2 0 0 [vR E 66] G D Q := by
  refine Ct.of (by decide) (Nat.le_of_ble_eq_true rfl) ?_
  show KX2_sortRow l E Q 0 [(0, vR E 66)] G D
  refine go_iconst dX2_sortRow_0 ?_
  refine go_istore_n [1, 0] (L' := [(0, vR E 66), (1, vI 1)]) dX2_sortRow_1 rfl (by decide) rfl ?_
  exact h
theorem s_X2_sortRow_2 {l : Launch} {E : Ev} {Q : Int → Sh → Dm → Prop} {G : Sh} {D : Dm} (hL : Lay G) {v1 : Int}  (h : ((-2147483648 ≤ v1 ∧ v1 < 2147483648)) ∧ (((D 66 3) ≤ v1 → Q 0 G D) ∧ (v1 < (D 66 3) → KX2_sortRow l E Q 12 [(0, vR E 66), (1, vI v1), (2, vI v1)] G D))) : KX2_sortRow l E Q 2 [(0, vR E 66), (1, vI v1)] G D := by
  obtain ⟨s1, h⟩ := h
  refine go_iload_n 1 dX2_sortRow_2 rfl rfl ?_
  refine go_aload_n 0 dX2_sortRow_3 rfl rfl ?_
  refine go_getI 3 (i := 3) f_X2_15 rfl (hL.1 66 _ rfl) dX2_sortRow_4 ?_
  refine go_rngI (c := 66) (i := 3) (hL.1 66 _ rfl) rfl (fun (q2 : -2147483648 ≤ (D 66 3) ∧ (D 66 3) < 2147483648) => ?_)
  refine go_icmp_ge 57 dX2_sortRow_7 (by decide) s1 q2 (fun c3 => ?_) (fun c3 => ?_)
  · have h := h.1 c3
    exact go_return (Nat.le_refl _) (Nat.le_refl _) rfl dX2_sortRow_57 h
  · have h := h.2 c3
    refine go_iload_n 1 dX2_sortRow_10 rfl rfl ?_
    refine go_istore_n [1, 2, 0] (L' := [(0, vR E 66), (1, vI v1), (2, vI v1)]) dX2_sortRow_11 rfl (by decide) rfl ?_
    exact h
theorem s_X2_sortRow_12 {l : Launch} {E : Ev} {Q : Int → Sh → Dm → Prop} {G : Sh} {D : Dm} (hL : Lay G) {v1 v2 : Int}  (h : ((-2147483648 ≤ v2 ∧ v2 < 2147483648)) ∧ ((v2 ≤ 0 → KX2_sortRow l E Q 2 [(0, vR E 66), (1, vI (v1 + 1))] G D) ∧ (0 < v2 → ((0 ≤ v2 ∧ v2 < 10) ∧ (0 ≤ (v2 - 1) ∧ (v2 - 1) < 10) ∧ (0 ≤ (D 67 v2) ∧ (D 67 v2) < 10) ∧ (0 ≤ (D 67 (v2 - 1)) ∧ (D 67 (v2 - 1)) < 10)) ∧ ((¬ (((D 2 (D 67 v2)) = (D 2 (D 67 (v2 - 1)))) ∧ ((D 3 (D 67 v2)) < (D 3 (D 67 (v2 - 1)))) ∨ ((D 2 (D 67 v2)) ≠ (D 2 (D 67 (v2 - 1)))) ∧ ((D 2 (D 67 v2)) < (D 2 (D 67 (v2 - 1))))) → KX2_sortRow l E Q 2 [(0, vR E 66), (1, vI (v1 + 1))] G D) ∧ ((((D 2 (D 67 v2)) = (D 2 (D 67 (v2 - 1)))) ∧ ((D 3 (D 67 v2)) < (D 3 (D 67 (v2 - 1)))) ∨ ((D 2 (D 67 v2)) ≠ (D 2 (D 67 (v2 - 1)))) ∧ ((D 2 (D 67 v2)) < (D 2 (D 67 (v2 - 1))))) → KX2_sortRow l E Q 12 [(0, vR E 66), (1, vI v1), (2, vI (v2 + (-1)))] G (upd2 (upd2 D 67 v2 (D 67 (v2 - 1))) 67 (v2 - 1) (D 67 v2))))))) : KX2_sortRow l E Q 12 [(0, vR E 66), (1, vI v1), (2, vI v2)] G D := by
  obtain ⟨s1, h⟩ := h
  refine go_iload_n 2 dX2_sortRow_12 rfl rfl ?_
  refine go_if_le 51 dX2_sortRow_13 (by decide) s1 (fun c2 => ?_) (fun c2 => ?_)
  · have h := h.1 c2
    refine go_iinc 1 [1, 0, 2] (L' := [(0, vR E 66), (1, vI (v1 + 1)), (2, vI v2)]) dX2_sortRow_51 (by decide) rfl rfl ?_
    refine go_goto 2 dX2_sortRow_54 (by decide) ?_
    refine go_sub [0, 1] (L' := [(0, vR E 66), (1, vI (v1 + 1))]) rfl ?_
    exact h
  · have h := h.2 c2
    obtain ⟨s4, h⟩ := h
    refine go_aload_n 0 dX2_sortRow_16 rfl rfl ?_
    refine go_aload_n 0 dX2_sortRow_17 rfl rfl ?_
    refine go_getR 2 f_X2_9 rfl (hL.1 66 _ rfl) (hL.2.1 66 2 _ rfl (by decide)) dX2_sortRow_18 ?_
    refine go_iload_n 2 dX2_sortRow_21 rfl rfl ?_
    refine go_iaload (hL.1 67 _ rfl) (b := 10) rfl (by decide) s4.1 dX2_sortRow_22 ?_
    refine go_aload_n 0 dX2_sortRow_23 rfl rfl ?_
    refine go_getR 2 f_X2_9 rfl (hL.1 66 _ rfl) (hL.2.1 66 2 _ rfl (by decide)) dX2_sortRow_24 ?_
    refine go_iload_n 2 dX2_sortRow_27 rfl rfl ?_
    refine go_iconst dX2_sortRow_28 ?_
    refine go_isub dX2_sortRow_29 ?_
    refine go_iaload (hL.1 67 _ rfl) (b := 10) rfl (by decide) s4.2.1 dX2_sortRow_30 ?_
    refine go_vIp (M := MX2_standsAhead) [vI (D 67 v2), vI (D 67 (v2 - 1))] [] mv_X2_67 (hL.1 66 _ rfl) rfl (by decide) ⟨Nat.le_of_ble_eq_true rfl, Nat.le_of_ble_eq_true rfl⟩ ⟨Nat.le_refl _, Nat.le_refl _⟩ rfl rfl (Nat.le_of_ble_eq_true rfl) dX2_sortRow_31 (p_X2_standsAhead hL s4.2.2.1 s4.2.2.2) ?_
    refine go_ifb_eq 51 dX2_sortRow_34 (by decide) (fun c6 => ?_) (fun c6 => ?_)
    · have h := h.1 c6
      refine go_iinc 1 [1, 0, 2] (L' := [(0, vR E 66), (1, vI (v1 + 1)), (2, vI v2)]) dX2_sortRow_51 (by decide) rfl rfl ?_
      refine go_goto 2 dX2_sortRow_54 (by decide) ?_
      refine go_sub [0, 1] (L' := [(0, vR E 66), (1, vI (v1 + 1))]) rfl ?_
      exact h
    · have h := h.2 c6
      refine go_aload_n 0 dX2_sortRow_37 rfl rfl ?_
      refine go_iload_n 2 dX2_sortRow_38 rfl rfl ?_
      refine go_iload_n 2 dX2_sortRow_39 rfl rfl ?_
      refine go_iconst dX2_sortRow_40 ?_
      refine go_isub dX2_sortRow_41 ?_
      refine go_rngI (c := 67) (i := v2) (hL.1 67 _ rfl) rfl (fun (q10 : -2147483648 ≤ (D 67 v2) ∧ (D 67 v2) < 2147483648) => ?_)
      refine go_vVp (M := MX2_exchange) [vI v2, vI (v2 - 1)] [] mv_X2_71 (hL.1 66 _ rfl) rfl (by decide) ⟨Nat.le_of_ble_eq_true rfl, Nat.le_of_ble_eq_true rfl⟩ ⟨Nat.le_refl _, Nat.le_refl _⟩ rfl rfl (Nat.le_of_ble_eq_true rfl) dX2_sortRow_42 (p_X2_exchange hL s4.1 s4.2.1 q10) ?_
      refine go_iinc 2 [1, 2, 0] (L' := [(0, vR E 66), (1, vI v1), (2, vI (v2 + (-1)))]) dX2_sortRow_45 (by decide) rfl rfl ?_
      refine go_goto 12 dX2_sortRow_48 (by decide) ?_
      exact h
theorem s_X2_dealtTo {l : Launch} {E : Ev} {Q : Int → Sh → Dm → Prop} {G : Sh} {D : Dm} (hL : Lay G) {v1 : Int}  (h : KX2_dealtTo l E Q 4 [(0, vR E 66), (1, vI v1), (2, vI 0), (3, vI 0)] G D) : Ct l E MX2_dealtTo 0 0 0 [vR E 66, vI v1] G D Q := by
  refine Ct.of (by decide) (Nat.le_of_ble_eq_true rfl) ?_
  show KX2_dealtTo l E Q 0 [(0, vR E 66), (1, vI v1)] G D
  refine go_iconst dX2_dealtTo_0 ?_
  refine go_istore_n [1, 2, 0] (L' := [(0, vR E 66), (1, vI v1), (2, vI 0)]) dX2_dealtTo_1 rfl (by decide) rfl ?_
  refine go_iconst dX2_dealtTo_2 ?_
  refine go_istore_n [1, 2, 3, 0] (L' := [(0, vR E 66), (1, vI v1), (2, vI 0), (3, vI 0)]) dX2_dealtTo_3 rfl (by decide) rfl ?_
  exact h
theorem s_X2_dealtTo_4 {l : Launch} {E : Ev} {Q : Int → Sh → Dm → Prop} {G : Sh} {D : Dm} (hL : Lay G) {v1 v2 v3 : Int}  (h : ((-2147483648 ≤ v3 ∧ v3 < 2147483648) ∧ (-2147483648 ≤ v1 ∧ v1 < 2147483648)) ∧ ((v1 ≤ v3 → C0 l E MX8_heldBy 0 [vR E 1, vI v1] G D (fun r4 D4 => C0 l E MJ6_bitCount_0f7a4 0 [vI r4] G D4 (fun r6 D6 => ((-2147483648 ≤ (D 66 3) ∧ (D 66 3) < 2147483648) ∧ (-2147483648 ≤ (v2 + r6) ∧ (v2 + r6) < 2147483648)) ∧ KX2_dealtTo l E Q 56 [(0, vR E 66), (1, vI v1), (2, vI v2), (3, vI (min (D 66 3) (v2 + r6))), (4, vI 0), (5, vI v2)] G D6))) ∧ (v3 < v1 → C0 l E MX8_heldBy 0 [vR E 1, vI v3] G D (fun r9 D9 => C0 l E MJ6_bitCount_0f7a4 0 [vI r9] G D9 (fun r11 D11 => KX2_dealtTo l E Q 4 [(0, vR E 66), (1, vI v1), (2, vI (v2 + r11)), (3, vI (v3 + 1))] G D11))))) : KX2_dealtTo l E Q 4 [(0, vR E 66), (1, vI v1), (2, vI v2), (3, vI v3)] G D := by
  obtain ⟨s1, h⟩ := h
  refine go_iload_n 3 dX2_dealtTo_4 rfl rfl ?_
  refine go_iload_n 1 dX2_dealtTo_5 rfl rfl ?_
  refine go_icmp_ge 29 dX2_dealtTo_6 (by decide) s1.1 s1.2 (fun c2 => ?_) (fun c2 => ?_)
  · have h := h.1 c2
    refine go_aload_n 0 dX2_dealtTo_29 rfl rfl ?_
    refine go_getI 3 (i := 3) f_X2_15 rfl (hL.1 66 _ rfl) dX2_dealtTo_30 ?_
    refine go_iload_n 2 dX2_dealtTo_33 rfl rfl ?_
    refine go_aload_n 0 dX2_dealtTo_34 rfl rfl ?_
    refine go_getR 0 f_X2_22 rfl (hL.1 66 _ rfl) (hL.2.1 66 0 _ rfl (by decide)) dX2_dealtTo_35 ?_
    refine go_iload_n 1 dX2_dealtTo_38 rfl rfl ?_
    refine go_vI (M := MX8_heldBy) [vI v1] [vI v2, vI (D 66 3)] mv_X2_41 (hL.1 1 _ rfl) rfl (by decide) ⟨Nat.le_of_ble_eq_true rfl, Nat.le_of_ble_eq_true rfl⟩ ⟨Nat.le_refl _, Nat.le_refl _⟩ rfl rfl (Nat.le_of_ble_eq_true rfl) dX2_dealtTo_39 h (fun r4 D4 h => ?_)
    refine go_sI (M := MJ6_bitCount_0f7a4) [vI r4] [vI v2, vI (D 66 3)] ms_X2_86 ⟨Nat.le_of_ble_eq_true rfl, Nat.le_of_ble_eq_true rfl⟩ ⟨Nat.le_refl _, Nat.le_refl _⟩ rfl rfl (Nat.le_of_ble_eq_true rfl) dX2_dealtTo_42 h (fun r6 D6 h => ?_)
    obtain ⟨s7, h⟩ := h
    refine go_iadd dX2_dealtTo_45 ?_
    refine go_mmin ma_X2_91 s7.1 s7.2 ⟨by decide, Nat.le_of_ble_eq_true rfl⟩ ⟨Nat.le_refl _, Nat.le_refl _⟩ dX2_dealtTo_46 ?_
    refine go_istore_n [1, 2, 3, 0] (L' := [(0, vR E 66), (1, vI v1), (2, vI v2), (3, vI (min (D 66 3) (v2 + r6)))]) dX2_dealtTo_49 rfl (by decide) rfl ?_
    refine go_iconst dX2_dealtTo_50 ?_
    refine go_istore [1, 2, 3, 4, 0] (L' := [(0, vR E 66), (1, vI v1), (2, vI v2), (3, vI (min (D 66 3) (v2 + r6))), (4, vI 0)]) dX2_dealtTo_51 (by decide) rfl ?_
    refine go_iload_n 2 dX2_dealtTo_53 rfl rfl ?_
    refine go_istore [1, 2, 3, 4, 5, 0] (L' := [(0, vR E 66), (1, vI v1), (2, vI v2), (3, vI (min (D 66 3) (v2 + r6))), (4, vI 0), (5, vI v2)]) dX2_dealtTo_54 (by decide) rfl ?_
    exact h
  · have h := h.2 c2
    refine go_iload_n 2 dX2_dealtTo_9 rfl rfl ?_
    refine go_aload_n 0 dX2_dealtTo_10 rfl rfl ?_
    refine go_getR 0 f_X2_22 rfl (hL.1 66 _ rfl) (hL.2.1 66 0 _ rfl (by decide)) dX2_dealtTo_11 ?_
    refine go_iload_n 3 dX2_dealtTo_14 rfl rfl ?_
    refine go_vI (M := MX8_heldBy) [vI v3] [vI v2] mv_X2_41 (hL.1 1 _ rfl) rfl (by decide) ⟨Nat.le_of_ble_eq_true rfl, Nat.le_of_ble_eq_true rfl⟩ ⟨Nat.le_refl _, Nat.le_refl _⟩ rfl rfl (Nat.le_of_ble_eq_true rfl) dX2_dealtTo_15 h (fun r9 D9 h => ?_)
    refine go_sI (M := MJ6_bitCount_0f7a4) [vI r9] [vI v2] ms_X2_86 ⟨Nat.le_of_ble_eq_true rfl, Nat.le_of_ble_eq_true rfl⟩ ⟨Nat.le_refl _, Nat.le_refl _⟩ rfl rfl (Nat.le_of_ble_eq_true rfl) dX2_dealtTo_18 h (fun r11 D11 h => ?_)
    refine go_iadd dX2_dealtTo_21 ?_
    refine go_istore_n [1, 2, 0, 3] (L' := [(0, vR E 66), (1, vI v1), (2, vI (v2 + r11)), (3, vI v3)]) dX2_dealtTo_22 rfl (by decide) rfl ?_
    refine go_iinc 3 [1, 2, 3, 0] (L' := [(0, vR E 66), (1, vI v1), (2, vI (v2 + r11)), (3, vI (v3 + 1))]) dX2_dealtTo_23 (by decide) rfl rfl ?_
    refine go_goto 4 dX2_dealtTo_26 (by decide) ?_
    exact h
theorem s_X2_dealtTo_56 {l : Launch} {E : Ev} {Q : Int → Sh → Dm → Prop} {G : Sh} {D : Dm} (hL : Lay G) {v1 v2 v3 v4 v5 : Int}  (h : ((-2147483648 ≤ v5 ∧ v5 < 2147483648) ∧ (-2147483648 ≤ v3 ∧ v3 < 2147483648)) ∧ ((v3 ≤ v5 → Q v4 G D) ∧ (v5 < v3 → ((0 ≤ v5 ∧ v5 < 10)) ∧ KX2_dealtTo l E Q 56 [(0, vR E 66), (1, vI v1), (2, vI v2), (3, vI v3), (4, vI (iO v4 (iSl 1 (D 67 v5)))), (5, vI (v5 + 1))] G D))) : KX2_dealtTo l E Q 56 [(0, vR E 66), (1, vI v1), (2, vI v2), (3, vI v3), (4, vI v4), (5, vI v5)] G D := by
  obtain ⟨s1, h⟩ := h
  refine go_iload 5 dX2_dealtTo_56 rfl ?_
  refine go_iload_n 3 dX2_dealtTo_58 rfl rfl ?_
  refine go_icmp_ge 82 dX2_dealtTo_59 (by decide) s1.1 s1.2 (fun c2 => ?_) (fun c2 => ?_)
  · have h := h.1 c2
    refine go_iload 4 dX2_dealtTo_82 rfl ?_
    exact go_ireturn (Nat.le_refl _) (Nat.le_refl _) rfl dX2_dealtTo_84 h
  · have h := h.2 c2
    obtain ⟨s4, h⟩ := h
    refine go_iload 4 dX2_dealtTo_62 rfl ?_
    refine go_iconst dX2_dealtTo_64 ?_
    refine go_aload_n 0 dX2_dealtTo_65 rfl rfl ?_
    refine go_getR 2 f_X2_9 rfl (hL.1 66 _ rfl) (hL.2.1 66 2 _ rfl (by decide)) dX2_dealtTo_66 ?_
    refine go_iload 5 dX2_dealtTo_69 rfl ?_
    refine go_iaload (hL.1 67 _ rfl) (b := 10) rfl (by decide) s4 dX2_dealtTo_71 ?_
    refine go_ishl dX2_dealtTo_72 ?_
    refine go_ior dX2_dealtTo_73 ?_
    refine go_istore [1, 2, 3, 4, 0, 5] (L' := [(0, vR E 66), (1, vI v1), (2, vI v2), (3, vI v3), (4, vI (iO v4 (iSl 1 (D 67 v5)))), (5, vI v5)]) dX2_dealtTo_74 (by decide) rfl ?_
    refine go_iinc 5 [1, 2, 3, 4, 5, 0] (L' := [(0, vR E 66), (1, vI v1), (2, vI v2), (3, vI v3), (4, vI (iO v4 (iSl 1 (D 67 v5)))), (5, vI (v5 + 1))]) dX2_dealtTo_76 (by decide) rfl rfl ?_
    refine go_goto 56 dX2_dealtTo_79 (by decide) ?_
    exact h
theorem s_X2_losersByPlace {l : Launch} {E : Ev} {Q : Int → Sh → Dm → Prop} {G : Sh} {D : Dm} (hL : Lay G)  (h : C0 l E MX2_fillRow 2 [vR E 66] G D (fun r2 D2 => C0 l E MX2_sortRow 2 [vR E 66] G D2 (fun r4 D4 => KX2_losersByPlace l E Q 12 [(0, vR E 66), (1, vI 0), (2, vI 0)] G D4))) : Ct l E MX2_losersByPlace 0 0 0 [vR E 66] G D Q := by
  refine Ct.of (by decide) (Nat.le_of_ble_eq_true rfl) ?_
  show KX2_losersByPlace l E Q 0 [(0, vR E 66)] G D
  refine go_aload_n 0 dX2_losersByPlace_0 rfl rfl ?_
  refine go_vV (M := MX2_fillRow) [] [] mv_X2_30 (hL.1 66 _ rfl) rfl (by decide) ⟨Nat.le_of_ble_eq_true rfl, Nat.le_of_ble_eq_true rfl⟩ ⟨Nat.le_refl _, Nat.le_refl _⟩ rfl rfl (Nat.le_of_ble_eq_true rfl) dX2_losersByPlace_1 h (fun r2 D2 h => ?_)
  refine go_aload_n 0 dX2_losersByPlace_4 rfl rfl ?_
  refine go_vV (M := MX2_sortRow) [] [] mv_X2_33 (hL.1 66 _ rfl) rfl (by decide) ⟨Nat.le_of_ble_eq_true rfl, Nat.le_of_ble_eq_true rfl⟩ ⟨Nat.le_refl _, Nat.le_refl _⟩ rfl rfl (Nat.le_of_ble_eq_true rfl) dX2_losersByPlace_5 h (fun r4 D4 h => ?_)
  refine go_iconst dX2_losersByPlace_8 ?_
  refine go_istore_n [1, 0] (L' := [(0, vR E 66), (1, vI 0)]) dX2_losersByPlace_9 rfl (by decide) rfl ?_
  refine go_iconst dX2_losersByPlace_10 ?_
  refine go_istore_n [1, 2, 0] (L' := [(0, vR E 66), (1, vI 0), (2, vI 0)]) dX2_losersByPlace_11 rfl (by decide) rfl ?_
  exact h
theorem s_X2_losersByPlace_12 {l : Launch} {E : Ev} {Q : Int → Sh → Dm → Prop} {G : Sh} {D : Dm} (hL : Lay G) {v1 v2 : Int}  (h : ((-2147483648 ≤ v2 ∧ v2 < 2147483648)) ∧ (((D 1 2) ≤ v2 → Q v1 G D) ∧ (v2 < (D 1 2) → C0 l E MX8_heldBy 0 [vR E 1, vI v2] G D (fun r6 D6 => C0 l E MX5_worthOf 1 [vR E 42, vI v2, vI r6] G D6 (fun r8 D8 => C0 l E MX2_dealtTo 0 [vR E 66, vI v2] G D8 (fun r10 D10 => C0 l E MX5_worthOf 1 [vR E 42, vI v2, vI r10] G D10 (fun r12 D12 => ((-9223372036854775808 ≤ r12 ∧ r12 < 9223372036854775808) ∧ (-9223372036854775808 ≤ r8 ∧ r8 < 9223372036854775808)) ∧ ((r8 ≤ r12 → KX2_losersByPlace l E Q 12 [(0, vR E 66), (1, vI v1), (2, vI (v2 + 1))] G D12) ∧ (r12 < r8 → KX2_losersByPlace l E Q 12 [(0, vR E 66), (1, vI (iO v1 (iSl 1 v2))), (2, vI (v2 + 1))] G D12))))))))) : KX2_losersByPlace l E Q 12 [(0, vR E 66), (1, vI v1), (2, vI v2)] G D := by
  obtain ⟨s1, h⟩ := h
  refine go_iload_n 2 dX2_losersByPlace_12 rfl rfl ?_
  refine go_aload_n 0 dX2_losersByPlace_13 rfl rfl ?_
  refine go_getR 0 f_X2_22 rfl (hL.1 66 _ rfl) (hL.2.1 66 0 _ rfl (by decide)) dX2_losersByPlace_14 ?_
  refine go_getI 2 (i := 2) f_X2_36 rfl (hL.1 1 _ rfl) dX2_losersByPlace_17 ?_
  refine go_rngI (c := 1) (i := 2) (hL.1 1 _ rfl) rfl (fun (q2 : -2147483648 ≤ (D 1 2) ∧ (D 1 2) < 2147483648) => ?_)
  refine go_icmp_ge 70 dX2_losersByPlace_20 (by decide) s1 q2 (fun c3 => ?_) (fun c3 => ?_)
  · have h := h.1 c3
    refine go_iload_n 1 dX2_losersByPlace_70 rfl rfl ?_
    exact go_ireturn (Nat.le_refl _) (Nat.le_refl _) rfl dX2_losersByPlace_71 h
  · have h := h.2 c3
    refine go_aload_n 0 dX2_losersByPlace_23 rfl rfl ?_
    refine go_getR 1 f_X2_26 rfl (hL.1 66 _ rfl) (hL.2.1 66 1 _ rfl (by decide)) dX2_losersByPlace_24 ?_
    refine go_iload_n 2 dX2_losersByPlace_27 rfl rfl ?_
    refine go_aload_n 0 dX2_losersByPlace_28 rfl rfl ?_
    refine go_getR 0 f_X2_22 rfl (hL.1 66 _ rfl) (hL.2.1 66 0 _ rfl (by decide)) dX2_losersByPlace_29 ?_
    refine go_iload_n 2 dX2_losersByPlace_32 rfl rfl ?_
    refine go_vI (M := MX8_heldBy) [vI v2] [vI v2, vR E 42] mv_X2_41 (hL.1 1 _ rfl) rfl (by decide) ⟨Nat.le_of_ble_eq_true rfl, Nat.le_of_ble_eq_true rfl⟩ ⟨Nat.le_refl _, Nat.le_refl _⟩ rfl rfl (Nat.le_of_ble_eq_true rfl) dX2_losersByPlace_33 h (fun r6 D6 h => ?_)
    refine go_vJ (M := MX5_worthOf) [vI v2, vI r6] [] mv_X2_45 (hL.1 42 _ rfl) rfl (by decide) ⟨Nat.le_of_ble_eq_true rfl, Nat.le_of_ble_eq_true rfl⟩ ⟨Nat.le_refl _, Nat.le_refl _⟩ rfl rfl (Nat.le_of_ble_eq_true rfl) dX2_losersByPlace_36 h (fun r8 D8 h => ?_)
    refine go_lstore_n [1, 2, 3, 0] (L' := [(0, vR E 66), (1, vI v1), (2, vI v2), (3, vJ r8)]) dX2_losersByPlace_39 rfl (by decide) rfl ?_
    refine go_aload_n 0 dX2_losersByPlace_40 rfl rfl ?_
    refine go_getR 1 f_X2_26 rfl (hL.1 66 _ rfl) (hL.2.1 66 1 _ rfl (by decide)) dX2_losersByPlace_41 ?_
    refine go_iload_n 2 dX2_losersByPlace_44 rfl rfl ?_
    refine go_aload_n 0 dX2_losersByPlace_45 rfl rfl ?_
    refine go_iload_n 2 dX2_losersByPlace_46 rfl rfl ?_
    refine go_vI (M := MX2_dealtTo) [vI v2] [vI v2, vR E 42] mv_X2_51 (hL.1 66 _ rfl) rfl (by decide) ⟨Nat.le_of_ble_eq_true rfl, Nat.le_of_ble_eq_true rfl⟩ ⟨Nat.le_refl _, Nat.le_refl _⟩ rfl rfl (Nat.le_of_ble_eq_true rfl) dX2_losersByPlace_47 h (fun r10 D10 h => ?_)
    refine go_vJ (M := MX5_worthOf) [vI v2, vI r10] [] mv_X2_45 (hL.1 42 _ rfl) rfl (by decide) ⟨Nat.le_of_ble_eq_true rfl, Nat.le_of_ble_eq_true rfl⟩ ⟨Nat.le_refl _, Nat.le_refl _⟩ rfl rfl (Nat.le_of_ble_eq_true rfl) dX2_losersByPlace_50 h (fun r12 D12 h => ?_)
    obtain ⟨s13, h⟩ := h
    refine go_lload_n 3 dX2_losersByPlace_53 rfl rfl ?_
    refine go_lcmp_ge 64 dX2_losersByPlace_54 dX2_losersByPlace_55 (by decide) s13.1 s13.2 (fun c14 => ?_) (fun c14 => ?_)
    · have h := h.1 c14
      refine go_iinc 2 [1, 2, 0, 3] (L' := [(0, vR E 66), (1, vI v1), (2, vI (v2 + 1)), (3, vJ r8)]) dX2_losersByPlace_64 (by decide) rfl rfl ?_
      refine go_goto 12 dX2_losersByPlace_67 (by decide) ?_
      refine go_sub [0, 1, 2] (L' := [(0, vR E 66), (1, vI v1), (2, vI (v2 + 1))]) rfl ?_
      exact h
    · have h := h.2 c14
      refine go_iload_n 1 dX2_losersByPlace_58 rfl rfl ?_
      refine go_iconst dX2_losersByPlace_59 ?_
      refine go_iload_n 2 dX2_losersByPlace_60 rfl rfl ?_
      refine go_ishl dX2_losersByPlace_61 ?_
      refine go_ior dX2_losersByPlace_62 ?_
      refine go_istore_n [1, 0, 2, 3] (L' := [(0, vR E 66), (1, vI (iO v1 (iSl 1 v2))), (2, vI v2), (3, vJ r8)]) dX2_losersByPlace_63 rfl (by decide) rfl ?_
      refine go_iinc 2 [1, 2, 0, 3] (L' := [(0, vR E 66), (1, vI (iO v1 (iSl 1 v2))), (2, vI (v2 + 1)), (3, vJ r8)]) dX2_losersByPlace_64 (by decide) rfl rfl ?_
      refine go_goto 12 dX2_losersByPlace_67 (by decide) ?_
      refine go_sub [0, 1, 2] (L' := [(0, vR E 66), (1, vI (iO v1 (iSl 1 v2))), (2, vI (v2 + 1))]) rfl ?_
      exact h
theorem s_X2_startDraws {l : Launch} {E : Ev} {Q : Int → Sh → Dm → Prop} {G : Sh} {D : Dm} (hL : Lay G) {v1 : Int}  (h : ((-2147483648 ≤ v1 ∧ v1 < 2147483648)) ∧ Q 0 G (upd2 D 66 4 v1)) : Ct l E MX2_startDraws 2 0 0 [vR E 66, vI v1] G D Q := by
  refine Ct.of (by decide) (Nat.le_of_ble_eq_true rfl) ?_
  show KX2_startDraws l E Q 0 [(0, vR E 66), (1, vI v1)] G D
  obtain ⟨s1, h⟩ := h
  refine go_aload_n 0 dX2_startDraws_0 rfl rfl ?_
  refine go_iload_n 1 dX2_startDraws_1 rfl rfl ?_
  refine go_putI 4 (i := 4) s1 f_X2_19 rfl (hL.1 66 _ rfl) dX2_startDraws_2 ?_
  exact go_return (Nat.le_refl _) (Nat.le_refl _) rfl dX2_startDraws_5 h
theorem p_X2_startDraws {l : Launch} {E : Ev} {G : Sh} {D : Dm} (hL : Lay G) {v1 : Int}  (q0 : -2147483648 ≤ v1 ∧ v1 < 2147483648) : C0 l E MX2_startDraws 2 [vR E 66, vI v1] G D (fun r D' => r = 0 ∧ D' = (upd2 D 66 4 v1)) := s_X2_startDraws hL ⟨q0, ⟨rfl, rfl, rfl⟩⟩
theorem s_X2_nextDraw {l : Launch} {E : Ev} {Q : Int → Sh → Dm → Prop} {G : Sh} {D : Dm} (hL : Lay G)  (h : ((-2147483648 ≤ (((D 66 4) * 4093) + 15731) ∧ (((D 66 4) * 4093) + 15731) < 2147483648) ∧ (-2147483648 ≤ (Int.tmod (((D 66 4) * 4093) + 15731) 65536) ∧ (Int.tmod (((D 66 4) * 4093) + 15731) 65536) < 2147483648)) ∧ Q (Int.tdiv (Int.tmod (((D 66 4) * 4093) + 15731) 65536) 8) G (upd2 D 66 4 (Int.tmod (((D 66 4) * 4093) + 15731) 65536))) : Ct l E MX2_nextDraw 0 0 0 [vR E 66] G D Q := by
  refine Ct.of (by decide) (Nat.le_of_ble_eq_true rfl) ?_
  show KX2_nextDraw l E Q 0 [(0, vR E 66)] G D
  obtain ⟨s1, h⟩ := h
  refine go_aload_n 0 dX2_nextDraw_0 rfl rfl ?_
  refine go_aload_n 0 dX2_nextDraw_1 rfl rfl ?_
  refine go_getI 4 (i := 4) f_X2_19 rfl (hL.1 66 _ rfl) dX2_nextDraw_2 ?_
  refine go_sipush dX2_nextDraw_5 (by decide) ?_
  refine go_imul dX2_nextDraw_8 ?_
  refine go_sipush dX2_nextDraw_9 (by decide) ?_
  refine go_iadd dX2_nextDraw_12 ?_
  refine go_ldc (x := 65536) k_X2_85 dX2_nextDraw_13 ?_
  refine go_irem ⟨s1.1, (by decide)⟩ dX2_nextDraw_15 ?_
  refine go_putI 4 (i := 4) s1.2 f_X2_19 rfl (hL.1 66 _ rfl) dX2_nextDraw_16 ?_
  refine go_aload_n 0 dX2_nextDraw_19 rfl rfl ?_
  refine go_getI 4 (i := 4) f_X2_19 rfl (hL.1 66 _ rfl) dX2_nextDraw_20 ?_
  refine go_bipush dX2_nextDraw_23 (by decide) ?_
  refine go_idiv ⟨s1.2, (by decide)⟩ dX2_nextDraw_25 ?_
  exact go_ireturn (Nat.le_refl _) (Nat.le_refl _) rfl dX2_nextDraw_26 h
theorem p_X2_nextDraw {l : Launch} {E : Ev} {G : Sh} {D : Dm} (hL : Lay G)  (q0 : -2147483648 ≤ (((D 66 4) * 4093) + 15731) ∧ (((D 66 4) * 4093) + 15731) < 2147483648) (q1 : -2147483648 ≤ (Int.tmod (((D 66 4) * 4093) + 15731) 65536) ∧ (Int.tmod (((D 66 4) * 4093) + 15731) 65536) < 2147483648) : C0 l E MX2_nextDraw 0 [vR E 66] G D (fun r D' => r = (Int.tdiv (Int.tmod (((D 66 4) * 4093) + 15731) 65536) 8) ∧ D' = (upd2 D 66 4 (Int.tmod (((D 66 4) * 4093) + 15731) 65536))) := s_X2_nextDraw hL ⟨⟨q0, q1⟩, ⟨rfl, rfl, rfl⟩⟩
theorem s_X2_shuffleRow {l : Launch} {E : Ev} {Q : Int → Sh → Dm → Prop} {G : Sh} {D : Dm} (hL : Lay G)  (h : KX2_shuffleRow l E Q 7 [(0, vR E 66), (1, vI ((D 66 3) - 1))] G D) : Ct l E MX2_shuffleRow 2 0 0 [vR E 66] G D Q := by
  refine Ct.of (by decide) (Nat.le_of_ble_eq_true rfl) ?_
  show KX2_shuffleRow l E Q 0 [(0, vR E 66)] G D
  refine go_aload_n 0 dX2_shuffleRow_0 rfl rfl ?_
  refine go_getI 3 (i := 3) f_X2_15 rfl (hL.1 66 _ rfl) dX2_shuffleRow_1 ?_
  refine go_iconst dX2_shuffleRow_4 ?_
  refine go_isub dX2_shuffleRow_5 ?_
  refine go_istore_n [1, 0] (L' := [(0, vR E 66), (1, vI ((D 66 3) - 1))]) dX2_shuffleRow_6 rfl (by decide) rfl ?_
  exact h
theorem s_X2_shuffleRow_7 {l : Launch} {E : Ev} {Q : Int → Sh → Dm → Prop} {G : Sh} {D : Dm} (hL : Lay G) {v1 : Int}  (h : ((-2147483648 ≤ v1 ∧ v1 < 2147483648)) ∧ ((v1 < 1 → Q 0 G D) ∧ (1 ≤ v1 → ((-2147483648 ≤ (((D 66 4) * 4093) + 15731) ∧ (((D 66 4) * 4093) + 15731) < 2147483648) ∧ (-2147483648 ≤ (Int.tmod (((D 66 4) * 4093) + 15731) 65536) ∧ (Int.tmod (((D 66 4) * 4093) + 15731) 65536) < 2147483648) ∧ (-2147483648 ≤ (Int.tdiv (Int.tmod (((D 66 4) * 4093) + 15731) 65536) 8) ∧ (Int.tdiv (Int.tmod (((D 66 4) * 4093) + 15731) 65536) 8) < 2147483648) ∧ (0 < (v1 + 1) ∧ (v1 + 1) < 2147483648) ∧ (0 ≤ v1 ∧ v1 < 10) ∧ (0 ≤ (Int.tmod (Int.tdiv (Int.tmod (((D 66 4) * 4093) + 15731) 65536) 8) (v1 + 1)) ∧ (Int.tmod (Int.tdiv (Int.tmod (((D 66 4) * 4093) + 15731) 65536) 8) (v1 + 1)) < 10)) ∧ KX2_shuffleRow l E Q 7 [(0, vR E 66), (1, vI (v1 + (-1)))] G (upd2 (upd2 (upd2 D 66 4 (Int.tmod (((D 66 4) * 4093) + 15731) 65536)) 67 v1 (D 67 (Int.tmod (Int.tdiv (Int.tmod (((D 66 4) * 4093) + 15731) 65536) 8) (v1 + 1)))) 67 (Int.tmod (Int.tdiv (Int.tmod (((D 66 4) * 4093) + 15731) 65536) 8) (v1 + 1)) (D 67 v1))))) : KX2_shuffleRow l E Q 7 [(0, vR E 66), (1, vI v1)] G D := by
  obtain ⟨s1, h⟩ := h
  refine go_iload_n 1 dX2_shuffleRow_7 rfl rfl ?_
  refine go_iconst dX2_shuffleRow_8 ?_
  refine go_icmp_lt 31 dX2_shuffleRow_9 (by decide) s1 (by decide) (fun c2 => ?_) (fun c2 => ?_)
  · have h := h.1 c2
    exact go_return (Nat.le_refl _) (Nat.le_refl _) rfl dX2_shuffleRow_31 h
  · have h := h.2 c2
    obtain ⟨s4, h⟩ := h
    refine go_aload_n 0 dX2_shuffleRow_12 rfl rfl ?_
    refine go_iload_n 1 dX2_shuffleRow_13 rfl rfl ?_
    refine go_aload_n 0 dX2_shuffleRow_14 rfl rfl ?_
    refine go_vIp (M := MX2_nextDraw) [] [vI v1, vR E 66] mv_X2_81 (hL.1 66 _ rfl) rfl (by decide) ⟨Nat.le_of_ble_eq_true rfl, Nat.le_of_ble_eq_true rfl⟩ ⟨Nat.le_refl _, Nat.le_refl _⟩ rfl rfl (Nat.le_of_ble_eq_true rfl) dX2_shuffleRow_15 (p_X2_nextDraw hL s4.1 s4.2.1) ?_
    refine go_iload_n 1 dX2_shuffleRow_18 rfl rfl ?_
    refine go_iconst dX2_shuffleRow_19 ?_
    refine go_iadd dX2_shuffleRow_20 ?_
    refine go_irem ⟨s4.2.2.1, s4.2.2.2.1⟩ dX2_shuffleRow_21 ?_
    refine go_rngI (c := 67) (i := v1) (hL.1 67 _ rfl) rfl (fun (q7 : -2147483648 ≤ (D 67 v1) ∧ (D 67 v1) < 2147483648) => ?_)
    refine go_vVp (M := MX2_exchange) [vI v1, vI (Int.tmod (Int.tdiv (Int.tmod (((D 66 4) * 4093) + 15731) 65536) 8) (v1 + 1))] [] mv_X2_71 (hL.1 66 _ rfl) rfl (by decide) ⟨Nat.le_of_ble_eq_true rfl, Nat.le_of_ble_eq_true rfl⟩ ⟨Nat.le_refl _, Nat.le_refl _⟩ rfl rfl (Nat.le_of_ble_eq_true rfl) dX2_shuffleRow_22 (p_X2_exchange hL s4.2.2.2.2.1 s4.2.2.2.2.2 q7) ?_
    refine go_iinc 1 [1, 0] (L' := [(0, vR E 66), (1, vI (v1 + (-1)))]) dX2_shuffleRow_25 (by decide) rfl rfl ?_
    refine go_goto 7 dX2_shuffleRow_28 (by decide) ?_
    exact h
theorem s_X2_luckierDeals {l : Launch} {E : Ev} {Q : Int → Sh → Dm → Prop} {G : Sh} {D : Dm} (hL : Lay G) {v1 v3 v4 : Int} {c : Nat} (hc : G.1[c]? = some (101, 60)) (h : C0 l E MX8_heldBy 0 [vR E 1, vI v1] G D (fun r2 D2 => C0 l E MX5_hungryYears 0 [vR E 42, vI v1, vI r2, vR E c, vI v3] G D2 (fun r4 D4 => KX2_luckierDeals l E Q 26 [(0, vR E 66), (1, vI v1), (2, vR E c), (3, vI v3), (4, vI v4), (5, vI r4), (6, vI 0), (7, vI 0)] G D4))) : Ct l E MX2_luckierDeals 0 0 0 [vR E 66, vI v1, vR E c, vI v3, vI v4] G D Q := by
  refine Ct.of (by decide) (Nat.le_of_ble_eq_true rfl) ?_
  show KX2_luckierDeals l E Q 0 [(0, vR E 66), (1, vI v1), (2, vR E c), (3, vI v3), (4, vI v4)] G D
  refine go_aload_n 0 dX2_luckierDeals_0 rfl rfl ?_
  refine go_getR 1 f_X2_26 rfl (hL.1 66 _ rfl) (hL.2.1 66 1 _ rfl (by decide)) dX2_luckierDeals_1 ?_
  refine go_iload_n 1 dX2_luckierDeals_4 rfl rfl ?_
  refine go_aload_n 0 dX2_luckierDeals_5 rfl rfl ?_
  refine go_getR 0 f_X2_22 rfl (hL.1 66 _ rfl) (hL.2.1 66 0 _ rfl (by decide)) dX2_luckierDeals_6 ?_
  refine go_iload_n 1 dX2_luckierDeals_9 rfl rfl ?_
  refine go_vI (M := MX8_heldBy) [vI v1] [vI v1, vR E 42] mv_X2_41 (hL.1 1 _ rfl) rfl (by decide) ⟨Nat.le_of_ble_eq_true rfl, Nat.le_of_ble_eq_true rfl⟩ ⟨Nat.le_refl _, Nat.le_refl _⟩ rfl rfl (Nat.le_of_ble_eq_true rfl) dX2_luckierDeals_10 h (fun r2 D2 h => ?_)
  refine go_aload_n 2 dX2_luckierDeals_13 rfl rfl ?_
  refine go_iload_n 3 dX2_luckierDeals_14 rfl rfl ?_
  refine go_vI (M := MX5_hungryYears) [vI v1, vI r2, vR E c, vI v3] [] mv_X2_54 (hL.1 42 _ rfl) rfl (by decide) ⟨Nat.le_of_ble_eq_true rfl, Nat.le_of_ble_eq_true rfl⟩ ⟨Nat.le_refl _, Nat.le_refl _⟩ rfl rfl (Nat.le_of_ble_eq_true rfl) dX2_luckierDeals_15 h (fun r4 D4 h => ?_)
  refine go_istore [1, 2, 3, 4, 5, 0] (L' := [(0, vR E 66), (1, vI v1), (2, vR E c), (3, vI v3), (4, vI v4), (5, vI r4)]) dX2_luckierDeals_18 (by decide) rfl ?_
  refine go_iconst dX2_luckierDeals_20 ?_
  refine go_istore [1, 2, 3, 4, 5, 6, 0] (L' := [(0, vR E 66), (1, vI v1), (2, vR E c), (3, vI v3), (4, vI v4), (5, vI r4), (6, vI 0)]) dX2_luckierDeals_21 (by decide) rfl ?_
  refine go_iconst dX2_luckierDeals_23 ?_
  refine go_istore [1, 2, 3, 4, 5, 6, 7, 0] (L' := [(0, vR E 66), (1, vI v1), (2, vR E c), (3, vI v3), (4, vI v4), (5, vI r4), (6, vI 0), (7, vI 0)]) dX2_luckierDeals_24 (by decide) rfl ?_
  exact h
theorem s_X2_luckierDeals_26 {l : Launch} {E : Ev} {Q : Int → Sh → Dm → Prop} {G : Sh} {D : Dm} (hL : Lay G) {v1 v3 v4 v5 v6 v7 : Int} {c : Nat} (hc : G.1[c]? = some (101, 60)) (h : ((-2147483648 ≤ v7 ∧ v7 < 2147483648) ∧ (-2147483648 ≤ v4 ∧ v4 < 2147483648)) ∧ ((v4 ≤ v7 → Q v6 G D) ∧ (v7 < v4 → C0 l E MX2_fillRow 2 [vR E 66] G D (fun r5 D5 => C0 l E MX2_shuffleRow 2 [vR E 66] G D5 (fun r7 D7 => C0 l E MX2_dealtTo 0 [vR E 66, vI v1] G D7 (fun r9 D9 => C0 l E MX5_hungryYears 0 [vR E 42, vI v1, vI r9, vR E c, vI v3] G D9 (fun r11 D11 => ((-2147483648 ≤ r11 ∧ r11 < 2147483648) ∧ (-2147483648 ≤ v5 ∧ v5 < 2147483648)) ∧ ((v5 ≤ r11 → KX2_luckierDeals l E Q 26 [(0, vR E 66), (1, vI v1), (2, vR E c), (3, vI v3), (4, vI v4), (5, vI v5), (6, vI v6), (7, vI (v7 + 1))] G D11) ∧ (r11 < v5 → KX2_luckierDeals l E Q 26 [(0, vR E 66), (1, vI v1), (2, vR E c), (3, vI v3), (4, vI v4), (5, vI v5), (6, vI (v6 + 1)), (7, vI (v7 + 1))] G D11))))))))) : KX2_luckierDeals l E Q 26 [(0, vR E 66), (1, vI v1), (2, vR E c), (3, vI v3), (4, vI v4), (5, vI v5), (6, vI v6), (7, vI v7)] G D := by
  obtain ⟨s1, h⟩ := h
  refine go_iload 7 dX2_luckierDeals_26 rfl ?_
  refine go_iload 4 dX2_luckierDeals_28 rfl ?_
  refine go_icmp_ge 70 dX2_luckierDeals_30 (by decide) s1.1 s1.2 (fun c2 => ?_) (fun c2 => ?_)
  · have h := h.1 c2
    refine go_iload 6 dX2_luckierDeals_70 rfl ?_
    exact go_ireturn (Nat.le_refl _) (Nat.le_refl _) rfl dX2_luckierDeals_72 h
  · have h := h.2 c2
    refine go_aload_n 0 dX2_luckierDeals_33 rfl rfl ?_
    refine go_vV (M := MX2_fillRow) [] [] mv_X2_30 (hL.1 66 _ rfl) rfl (by decide) ⟨Nat.le_of_ble_eq_true rfl, Nat.le_of_ble_eq_true rfl⟩ ⟨Nat.le_refl _, Nat.le_refl _⟩ rfl rfl (Nat.le_of_ble_eq_true rfl) dX2_luckierDeals_34 h (fun r5 D5 h => ?_)
    refine go_aload_n 0 dX2_luckierDeals_37 rfl rfl ?_
    refine go_vV (M := MX2_shuffleRow) [] [] mv_X2_58 (hL.1 66 _ rfl) rfl (by decide) ⟨Nat.le_of_ble_eq_true rfl, Nat.le_of_ble_eq_true rfl⟩ ⟨Nat.le_refl _, Nat.le_refl _⟩ rfl rfl (Nat.le_of_ble_eq_true rfl) dX2_luckierDeals_38 h (fun r7 D7 h => ?_)
    refine go_aload_n 0 dX2_luckierDeals_41 rfl rfl ?_
    refine go_getR 1 f_X2_26 rfl (hL.1 66 _ rfl) (hL.2.1 66 1 _ rfl (by decide)) dX2_luckierDeals_42 ?_
    refine go_iload_n 1 dX2_luckierDeals_45 rfl rfl ?_
    refine go_aload_n 0 dX2_luckierDeals_46 rfl rfl ?_
    refine go_iload_n 1 dX2_luckierDeals_47 rfl rfl ?_
    refine go_vI (M := MX2_dealtTo) [vI v1] [vI v1, vR E 42] mv_X2_51 (hL.1 66 _ rfl) rfl (by decide) ⟨Nat.le_of_ble_eq_true rfl, Nat.le_of_ble_eq_true rfl⟩ ⟨Nat.le_refl _, Nat.le_refl _⟩ rfl rfl (Nat.le_of_ble_eq_true rfl) dX2_luckierDeals_48 h (fun r9 D9 h => ?_)
    refine go_aload_n 2 dX2_luckierDeals_51 rfl rfl ?_
    refine go_iload_n 3 dX2_luckierDeals_52 rfl rfl ?_
    refine go_vI (M := MX5_hungryYears) [vI v1, vI r9, vR E c, vI v3] [] mv_X2_54 (hL.1 42 _ rfl) rfl (by decide) ⟨Nat.le_of_ble_eq_true rfl, Nat.le_of_ble_eq_true rfl⟩ ⟨Nat.le_refl _, Nat.le_refl _⟩ rfl rfl (Nat.le_of_ble_eq_true rfl) dX2_luckierDeals_53 h (fun r11 D11 h => ?_)
    obtain ⟨s12, h⟩ := h
    refine go_iload 5 dX2_luckierDeals_56 rfl ?_
    refine go_icmp_ge 64 dX2_luckierDeals_58 (by decide) s12.1 s12.2 (fun c13 => ?_) (fun c13 => ?_)
    · have h := h.1 c13
      refine go_iinc 7 [1, 2, 3, 4, 5, 6, 7, 0] (L' := [(0, vR E 66), (1, vI v1), (2, vR E c), (3, vI v3), (4, vI v4), (5, vI v5), (6, vI v6), (7, vI (v7 + 1))]) dX2_luckierDeals_64 (by decide) rfl rfl ?_
      refine go_goto 26 dX2_luckierDeals_67 (by decide) ?_
      exact h
    · have h := h.2 c13
      refine go_iinc 6 [1, 2, 3, 4, 5, 6, 0, 7] (L' := [(0, vR E 66), (1, vI v1), (2, vR E c), (3, vI v3), (4, vI v4), (5, vI v5), (6, vI (v6 + 1)), (7, vI v7)]) dX2_luckierDeals_61 (by decide) rfl rfl ?_
      refine go_iinc 7 [1, 2, 3, 4, 5, 6, 7, 0] (L' := [(0, vR E 66), (1, vI v1), (2, vR E c), (3, vI v3), (4, vI v4), (5, vI v5), (6, vI (v6 + 1)), (7, vI (v7 + 1))]) dX2_luckierDeals_64 (by decide) rfl rfl ?_
      refine go_goto 26 dX2_luckierDeals_67 (by decide) ?_
      exact h
theorem s_X3_isSmallEnough {l : Launch} {E : Ev} {Q : Int → Sh → Dm → Prop} {G : Sh} {D : Dm} (hL : Lay G)  (h : ((8 < (D 1 0) → Q 0 G D) ∧ ((D 1 0) ≤ 8 → ((3 < (D 1 2) → Q 0 G D) ∧ ((D 1 2) ≤ 3 → Q 1 G D))))) : Ct l E MX3_isSmallEnough 0 0 0 [vR E 60] G D Q := by
  refine Ct.of (by decide) (Nat.le_of_ble_eq_true rfl) ?_
  show KX3_isSmallEnough l E Q 0 [(0, vR E 60)] G D
  refine go_aload_n 0 dX3_isSmallEnough_0 rfl rfl ?_
  refine go_getR 0 f_X3_32 rfl (hL.1 60 _ rfl) (hL.2.1 60 0 _ rfl (by decide)) dX3_isSmallEnough_1 ?_
  refine go_getI 0 (i := 0) f_X3_40 rfl (hL.1 1 _ rfl) dX3_isSmallEnough_4 ?_
  refine go_bipush dX3_isSmallEnough_7 (by decide) ?_
  refine go_rngI (c := 1) (i := 0) (hL.1 1 _ rfl) rfl (fun (q2 : -2147483648 ≤ (D 1 0) ∧ (D 1 0) < 2147483648) => ?_)
  refine go_icmp_gt 27 dX3_isSmallEnough_9 (by decide) q2 (by decide) (fun c3 => ?_) (fun c3 => ?_)
  · have h := h.1 c3
    refine go_iconst dX3_isSmallEnough_27 ?_
    exact go_zreturn (Nat.le_refl _) (Nat.le_refl _) rfl (by decide) dX3_isSmallEnough_28 h
  · have h := h.2 c3
    refine go_aload_n 0 dX3_isSmallEnough_12 rfl rfl ?_
    refine go_getR 0 f_X3_32 rfl (hL.1 60 _ rfl) (hL.2.1 60 0 _ rfl (by decide)) dX3_isSmallEnough_13 ?_
    refine go_getI 2 (i := 2) f_X3_45 rfl (hL.1 1 _ rfl) dX3_isSmallEnough_16 ?_
    refine go_iconst dX3_isSmallEnough_19 ?_
    refine go_rngI (c := 1) (i := 2) (hL.1 1 _ rfl) rfl (fun (q6 : -2147483648 ≤ (D 1 2) ∧ (D 1 2) < 2147483648) => ?_)
    refine go_icmp_gt 27 dX3_isSmallEnough_20 (by decide) q6 (by decide) (fun c7 => ?_) (fun c7 => ?_)
    · have h := h.1 c7
      refine go_iconst dX3_isSmallEnough_27 ?_
      exact go_zreturn (Nat.le_refl _) (Nat.le_refl _) rfl (by decide) dX3_isSmallEnough_28 h
    · have h := h.2 c7
      refine go_iconst dX3_isSmallEnough_23 ?_
      refine go_goto 28 dX3_isSmallEnough_24 (by decide) ?_
      exact go_zreturn (Nat.le_refl _) (Nat.le_refl _) rfl (by decide) dX3_isSmallEnough_28 h
theorem p_X3_isSmallEnough {l : Launch} {E : Ev} {G : Sh} {D : Dm} (hL : Lay G)   : C0 l E MX3_isSmallEnough 0 [vR E 60] G D (fun r D' => r = (if (((D 1 0) ≤ 8) ∧ ((D 1 2) ≤ 3)) then 1 else 0) ∧ D' = D) := by
  refine s_X3_isSmallEnough hL ?_
  refine ⟨fun hc => ?_, fun hc => ?_⟩
  · refine ⟨rfl, ?_, rfl⟩
    (split <;> first | rfl | (exfalso; simp_all; done) | omega | simp_all)
  · refine ⟨fun hc => ?_, fun hc => ?_⟩
    · refine ⟨rfl, ?_, rfl⟩
      (split <;> first | rfl | (exfalso; simp_all; done) | omega | simp_all)
    · refine ⟨rfl, ?_, rfl⟩
      (split <;> first | rfl | (exfalso; simp_all; done) | omega | simp_all)
theorem s_X3_fillHungry {l : Launch} {E : Ev} {Q : Int → Sh → Dm → Prop} {G : Sh} {D : Dm} (hL : Lay G) {v1 v2 : Int}  (h : C0 l E MX5_fillNets 2 [vR E 42, vI v1, vI v2, vI 0] G D (fun r2 D2 => KX3_fillHungry l E Q 15 [(0, vR E 60), (1, vI v1), (2, vI v2), (3, vJ 0), (5, vI 0)] G D2)) : Ct l E MX3_fillHungry 2 0 0 [vR E 60, vI v1, vI v2] G D Q := by
  refine Ct.of (by decide) (Nat.le_of_ble_eq_true rfl) ?_
  show KX3_fillHungry l E Q 0 [(0, vR E 60), (1, vI v1), (2, vI v2)] G D
  refine go_aload_n 0 dX3_fillHungry_0 rfl rfl ?_
  refine go_getR 1 f_X3_36 rfl (hL.1 60 _ rfl) (hL.2.1 60 1 _ rfl (by decide)) dX3_fillHungry_1 ?_
  refine go_iload_n 1 dX3_fillHungry_4 rfl rfl ?_
  refine go_iload_n 2 dX3_fillHungry_5 rfl rfl ?_
  refine go_iconst dX3_fillHungry_6 ?_
  refine go_vV (M := MX5_fillNets) [vI v1, vI v2, vI 0] [] mv_X3_78 (hL.1 42 _ rfl) rfl (by decide) ⟨Nat.le_of_ble_eq_true rfl, Nat.le_of_ble_eq_true rfl⟩ ⟨Nat.le_refl _, Nat.le_refl _⟩ rfl rfl (Nat.le_of_ble_eq_true rfl) dX3_fillHungry_7 h (fun r2 D2 h => ?_)
  refine go_lconst (x := 0) dX3_fillHungry_10 rfl ?_
  refine go_lstore_n [1, 2, 3, 0] (L' := [(0, vR E 60), (1, vI v1), (2, vI v2), (3, vJ 0)]) dX3_fillHungry_11 rfl (by decide) rfl ?_
  refine go_iconst dX3_fillHungry_12 ?_
  refine go_istore [1, 2, 3, 4, 0] (L' := [(0, vR E 60), (1, vI v1), (2, vI v2), (3, vJ 0), (5, vI 0)]) dX3_fillHungry_13 (by decide) rfl ?_
  exact h
theorem s_X3_fillHungry_15 {l : Launch} {E : Ev} {Q : Int → Sh → Dm → Prop} {G : Sh} {D : Dm} (hL : Lay G) {v1 v2 v3 v5 : Int}  (h : ((-2147483648 ≤ v5 ∧ v5 < 2147483648)) ∧ (((iSl 1 (D 1 1)) ≤ v5 → ((0 ≤ ((v1 * 256) + v2) ∧ ((v1 * 256) + v2) < 768) ∧ (-9223372036854775808 ≤ v3 ∧ v3 < 9223372036854775808) ∧ (0 ≤ v1 ∧ v1 < 4)) ∧ C0 l E MX5_weightAtMost 1 [vR E 42, vI ((D 13 v1) - 1)] G (upd2 D 61 ((v1 * 256) + v2) v3) (fun r5 D5 => ((-9223372036854775808 ≤ r5 ∧ r5 < 9223372036854775808)) ∧ Q 0 G (upd2 D5 62 ((v1 * 256) + v2) r5))) ∧ (v5 < (iSl 1 (D 1 1)) → ((0 ≤ v5 ∧ v5 < 64) ∧ (0 ≤ v1 ∧ v1 < 4)) ∧ (((D 13 v1) ≤ (D 44 v5) → KX3_fillHungry l E Q 15 [(0, vR E 60), (1, vI v1), (2, vI v2), (3, vJ v3), (5, vI (v5 + 1))] G D) ∧ ((D 44 v5) < (D 13 v1) → (((D 43 v5) ≤ 0 → KX3_fillHungry l E Q 15 [(0, vR E 60), (1, vI v1), (2, vI v2), (3, vJ v3), (5, vI (v5 + 1))] G D) ∧ (0 < (D 43 v5) → KX3_fillHungry l E Q 15 [(0, vR E 60), (1, vI v1), (2, vI v2), (3, vJ (jO v3 (jSl 1 v5))), (5, vI (v5 + 1))] G D))))))) : KX3_fillHungry l E Q 15 [(0, vR E 60), (1, vI v1), (2, vI v2), (3, vJ v3), (5, vI v5)] G D := by
  obtain ⟨s1, h⟩ := h
  refine go_iload 4 dX3_fillHungry_15 rfl ?_
  refine go_aload_n 0 dX3_fillHungry_17 rfl rfl ?_
  refine go_getR 0 f_X3_32 rfl (hL.1 60 _ rfl) (hL.2.1 60 0 _ rfl (by decide)) dX3_fillHungry_18 ?_
  refine go_vIp (M := MX8_lots) [] [vI v5] mv_X3_84 (hL.1 1 _ rfl) rfl (by decide) ⟨Nat.le_of_ble_eq_true rfl, Nat.le_of_ble_eq_true rfl⟩ ⟨Nat.le_refl _, Nat.le_refl _⟩ rfl rfl (Nat.le_of_ble_eq_true rfl) dX3_fillHungry_21 (p_X8_lots hL) ?_
  refine go_icmp_ge 77 dX3_fillHungry_24 (by decide) s1 (r32 _) (fun c3 => ?_) (fun c3 => ?_)
  · have h := h.1 c3
    obtain ⟨s4, h⟩ := h
    refine go_aload_n 0 dX3_fillHungry_77 rfl rfl ?_
    refine go_getR 2 f_X3_11 rfl (hL.1 60 _ rfl) (hL.2.1 60 2 _ rfl (by decide)) dX3_fillHungry_78 ?_
    refine go_iload_n 1 dX3_fillHungry_81 rfl rfl ?_
    refine go_sipush dX3_fillHungry_82 (by decide) ?_
    refine go_imul dX3_fillHungry_85 ?_
    refine go_iload_n 2 dX3_fillHungry_86 rfl rfl ?_
    refine go_iadd dX3_fillHungry_87 ?_
    refine go_lload_n 3 dX3_fillHungry_88 rfl rfl ?_
    refine go_lastore (hL.1 61 _ rfl) (b := 768) rfl (by decide) s4.1 s4.2.1 dX3_fillHungry_89 ?_
    refine go_aload_n 0 dX3_fillHungry_90 rfl rfl ?_
    refine go_getR 3 f_X3_15 rfl (hL.1 60 _ rfl) (hL.2.1 60 3 _ rfl (by decide)) dX3_fillHungry_91 ?_
    refine go_iload_n 1 dX3_fillHungry_94 rfl rfl ?_
    refine go_sipush dX3_fillHungry_95 (by decide) ?_
    refine go_imul dX3_fillHungry_98 ?_
    refine go_iload_n 2 dX3_fillHungry_99 rfl rfl ?_
    refine go_iadd dX3_fillHungry_100 ?_
    refine go_aload_n 0 dX3_fillHungry_101 rfl rfl ?_
    refine go_getR 1 f_X3_36 rfl (hL.1 60 _ rfl) (hL.2.1 60 1 _ rfl (by decide)) dX3_fillHungry_102 ?_
    refine go_aload_n 0 dX3_fillHungry_105 rfl rfl ?_
    refine go_getR 0 f_X3_32 rfl (hL.1 60 _ rfl) (hL.2.1 60 0 _ rfl (by decide)) dX3_fillHungry_106 ?_
    refine go_getR 16 f_X3_90 rfl (hL.1 1 _ rfl) (hL.2.1 1 16 _ rfl (by decide)) dX3_fillHungry_109 ?_
    refine go_iload_n 1 dX3_fillHungry_112 rfl rfl ?_
    refine go_iaload (hL.1 13 _ rfl) (b := 4) rfl (by decide) s4.2.2 dX3_fillHungry_113 ?_
    refine go_iconst dX3_fillHungry_114 ?_
    refine go_isub dX3_fillHungry_115 ?_
    refine go_vJ (M := MX5_weightAtMost) [vI ((D 13 v1) - 1)] [vI ((v1 * 256) + v2), vR E 62] mv_X3_96 (hL.1 42 _ rfl) rfl (by decide) ⟨Nat.le_of_ble_eq_true rfl, Nat.le_of_ble_eq_true rfl⟩ ⟨Nat.le_refl _, Nat.le_refl _⟩ rfl rfl (Nat.le_of_ble_eq_true rfl) dX3_fillHungry_116 h (fun r5 D5 h => ?_)
    obtain ⟨s6, h⟩ := h
    refine go_lastore (hL.1 62 _ rfl) (b := 768) rfl (by decide) s4.1 s6 dX3_fillHungry_119 ?_
    exact go_return (Nat.le_refl _) (Nat.le_refl _) rfl dX3_fillHungry_120 h
  · have h := h.2 c3
    obtain ⟨s7, h⟩ := h
    refine go_aload_n 0 dX3_fillHungry_27 rfl rfl ?_
    refine go_getR 1 f_X3_36 rfl (hL.1 60 _ rfl) (hL.2.1 60 1 _ rfl (by decide)) dX3_fillHungry_28 ?_
    refine go_getR 2 f_X3_87 rfl (hL.1 42 _ rfl) (hL.2.1 42 2 _ rfl (by decide)) dX3_fillHungry_31 ?_
    refine go_iload 4 dX3_fillHungry_34 rfl ?_
    refine go_iaload (hL.1 44 _ rfl) (b := 64) rfl (by decide) s7.1 dX3_fillHungry_36 ?_
    refine go_aload_n 0 dX3_fillHungry_37 rfl rfl ?_
    refine go_getR 0 f_X3_32 rfl (hL.1 60 _ rfl) (hL.2.1 60 0 _ rfl (by decide)) dX3_fillHungry_38 ?_
    refine go_getR 16 f_X3_90 rfl (hL.1 1 _ rfl) (hL.2.1 1 16 _ rfl (by decide)) dX3_fillHungry_41 ?_
    refine go_iload_n 1 dX3_fillHungry_44 rfl rfl ?_
    refine go_iaload (hL.1 13 _ rfl) (b := 4) rfl (by decide) s7.2 dX3_fillHungry_45 ?_
    refine go_rngI (c := 44) (i := v5) (hL.1 44 _ rfl) rfl (fun (q8 : -2147483648 ≤ (D 44 v5) ∧ (D 44 v5) < 2147483648) => ?_)
    refine go_rngI (c := 13) (i := v1) (hL.1 13 _ rfl) rfl (fun (q9 : -2147483648 ≤ (D 13 v1) ∧ (D 13 v1) < 2147483648) => ?_)
    refine go_icmp_ge 71 dX3_fillHungry_46 (by decide) q8 q9 (fun c10 => ?_) (fun c10 => ?_)
    · have h := h.1 c10
      refine go_iinc 4 [1, 2, 3, 4, 0] (L' := [(0, vR E 60), (1, vI v1), (2, vI v2), (3, vJ v3), (5, vI (v5 + 1))]) dX3_fillHungry_71 (by decide) rfl rfl ?_
      refine go_goto 15 dX3_fillHungry_74 (by decide) ?_
      exact h
    · have h := h.2 c10
      refine go_aload_n 0 dX3_fillHungry_49 rfl rfl ?_
      refine go_getR 1 f_X3_36 rfl (hL.1 60 _ rfl) (hL.2.1 60 1 _ rfl (by decide)) dX3_fillHungry_50 ?_
      refine go_getR 1 f_X3_93 rfl (hL.1 42 _ rfl) (hL.2.1 42 1 _ rfl (by decide)) dX3_fillHungry_53 ?_
      refine go_iload 4 dX3_fillHungry_56 rfl ?_
      refine go_laload (hL.1 43 _ rfl) (b := 64) rfl (by decide) s7.1 dX3_fillHungry_58 ?_
      refine go_lconst (x := 0) dX3_fillHungry_59 rfl ?_
      refine go_rngJ (c := 43) (i := v5) (hL.1 43 _ rfl) rfl (fun (q13 : -9223372036854775808 ≤ (D 43 v5) ∧ (D 43 v5) < 9223372036854775808) => ?_)
      refine go_lcmp_le 71 dX3_fillHungry_60 dX3_fillHungry_61 (by decide) q13 (by decide) (fun c14 => ?_) (fun c14 => ?_)
      · have h := h.1 c14
        refine go_iinc 4 [1, 2, 3, 4, 0] (L' := [(0, vR E 60), (1, vI v1), (2, vI v2), (3, vJ v3), (5, vI (v5 + 1))]) dX3_fillHungry_71 (by decide) rfl rfl ?_
        refine go_goto 15 dX3_fillHungry_74 (by decide) ?_
        exact h
      · have h := h.2 c14
        refine go_lload_n 3 dX3_fillHungry_64 rfl rfl ?_
        refine go_lconst (x := 1) dX3_fillHungry_65 rfl ?_
        refine go_iload 4 dX3_fillHungry_66 rfl ?_
        refine go_lshl dX3_fillHungry_68 ?_
        refine go_lor dX3_fillHungry_69 ?_
        refine go_lstore_n [1, 2, 3, 0, 4] (L' := [(0, vR E 60), (1, vI v1), (2, vI v2), (3, vJ (jO v3 (jSl 1 v5))), (5, vI v5)]) dX3_fillHungry_70 rfl (by decide) rfl ?_
        refine go_iinc 4 [1, 2, 3, 4, 0] (L' := [(0, vR E 60), (1, vI v1), (2, vI v2), (3, vJ (jO v3 (jSl 1 v5))), (5, vI (v5 + 1))]) dX3_fillHungry_71 (by decide) rfl rfl ?_
        refine go_goto 15 dX3_fillHungry_74 (by decide) ?_
        exact h
theorem s_X3_startWays {l : Launch} {E : Ev} {Q : Int → Sh → Dm → Prop} {G : Sh} {D : Dm} (hL : Lay G)  (h : KX3_startWays l E Q 2 [(0, vR E 60), (1, vI 0)] G D) : Ct l E MX3_startWays 2 0 0 [vR E 60] G D Q := by
  refine Ct.of (by decide) (Nat.le_of_ble_eq_true rfl) ?_
  show KX3_startWays l E Q 0 [(0, vR E 60)] G D
  refine go_iconst dX3_startWays_0 ?_
  refine go_istore_n [1, 0] (L' := [(0, vR E 60), (1, vI 0)]) dX3_startWays_1 rfl (by decide) rfl ?_
  exact h
theorem s_X3_startWays_2 {l : Launch} {E : Ev} {Q : Int → Sh → Dm → Prop} {G : Sh} {D : Dm} (hL : Lay G) {v1 : Int}  (h : ((-2147483648 ≤ v1 ∧ v1 < 2147483648)) ∧ ((8 ≤ v1 → KX3_startWays l E Q 23 [(0, vR E 60), (1, vI 0)] G D) ∧ (v1 < 8 → ((0 ≤ v1 ∧ v1 < 8)) ∧ KX3_startWays l E Q 2 [(0, vR E 60), (1, vI (v1 + 1))] G (upd2 D 63 v1 0)))) : KX3_startWays l E Q 2 [(0, vR E 60), (1, vI v1)] G D := by
  obtain ⟨s1, h⟩ := h
  refine go_iload_n 1 dX3_startWays_2 rfl rfl ?_
  refine go_bipush dX3_startWays_3 (by decide) ?_
  refine go_icmp_ge 21 dX3_startWays_5 (by decide) s1 (by decide) (fun c2 => ?_) (fun c2 => ?_)
  · have h := h.1 c2
    refine go_iconst dX3_startWays_21 ?_
    refine go_istore_n [1, 0] (L' := [(0, vR E 60), (1, vI 0)]) dX3_startWays_22 rfl (by decide) rfl ?_
    exact h
  · have h := h.2 c2
    obtain ⟨s4, h⟩ := h
    refine go_aload_n 0 dX3_startWays_8 rfl rfl ?_
    refine go_getR 4 f_X3_18 rfl (hL.1 60 _ rfl) (hL.2.1 60 4 _ rfl (by decide)) dX3_startWays_9 ?_
    refine go_iload_n 1 dX3_startWays_12 rfl rfl ?_
    refine go_iconst dX3_startWays_13 ?_
    refine go_iastore (hL.1 63 _ rfl) (b := 8) rfl (by decide) s4 (by decide) dX3_startWays_14 ?_
    refine go_iinc 1 [1, 0] (L' := [(0, vR E 60), (1, vI (v1 + 1))]) dX3_startWays_15 (by decide) rfl rfl ?_
    refine go_goto 2 dX3_startWays_18 (by decide) ?_
    exact h
theorem s_X3_startWays_23 {l : Launch} {E : Ev} {Q : Int → Sh → Dm → Prop} {G : Sh} {D : Dm} (hL : Lay G) {v1 : Int}  (h : ((-2147483648 ≤ v1 ∧ v1 < 2147483648)) ∧ ((3 ≤ v1 → ((-2147483648 ≤ ((iSl 1 (D 1 0)) - 1) ∧ ((iSl 1 (D 1 0)) - 1) < 2147483648)) ∧ Q 0 G (upd2 D 64 0 ((iSl 1 (D 1 0)) - 1))) ∧ (v1 < 3 → ((0 ≤ v1 ∧ v1 < 3)) ∧ KX3_startWays l E Q 23 [(0, vR E 60), (1, vI (v1 + 1))] G (upd2 D 64 v1 0)))) : KX3_startWays l E Q 23 [(0, vR E 60), (1, vI v1)] G D := by
  obtain ⟨s1, h⟩ := h
  refine go_iload_n 1 dX3_startWays_23 rfl rfl ?_
  refine go_iconst dX3_startWays_24 ?_
  refine go_icmp_ge 41 dX3_startWays_25 (by decide) s1 (by decide) (fun c2 => ?_) (fun c2 => ?_)
  · have h := h.1 c2
    obtain ⟨s3, h⟩ := h
    refine go_aload_n 0 dX3_startWays_41 rfl rfl ?_
    refine go_getR 5 f_X3_22 rfl (hL.1 60 _ rfl) (hL.2.1 60 5 _ rfl (by decide)) dX3_startWays_42 ?_
    refine go_iconst dX3_startWays_45 ?_
    refine go_aload_n 0 dX3_startWays_46 rfl rfl ?_
    refine go_getR 0 f_X3_32 rfl (hL.1 60 _ rfl) (hL.2.1 60 0 _ rfl (by decide)) dX3_startWays_47 ?_
    refine go_vIp (M := MX8_sets) [] [vI 0, vR E 64] mv_X3_48 (hL.1 1 _ rfl) rfl (by decide) ⟨Nat.le_of_ble_eq_true rfl, Nat.le_of_ble_eq_true rfl⟩ ⟨Nat.le_refl _, Nat.le_refl _⟩ rfl rfl (Nat.le_of_ble_eq_true rfl) dX3_startWays_50 (p_X8_sets hL) ?_
    refine go_iconst dX3_startWays_53 ?_
    refine go_isub dX3_startWays_54 ?_
    refine go_iastore (hL.1 64 _ rfl) (b := 3) rfl (by decide) (by decide) s3 dX3_startWays_55 ?_
    exact go_return (Nat.le_refl _) (Nat.le_refl _) rfl dX3_startWays_56 h
  · have h := h.2 c2
    obtain ⟨s5, h⟩ := h
    refine go_aload_n 0 dX3_startWays_28 rfl rfl ?_
    refine go_getR 5 f_X3_22 rfl (hL.1 60 _ rfl) (hL.2.1 60 5 _ rfl (by decide)) dX3_startWays_29 ?_
    refine go_iload_n 1 dX3_startWays_32 rfl rfl ?_
    refine go_iconst dX3_startWays_33 ?_
    refine go_iastore (hL.1 64 _ rfl) (b := 3) rfl (by decide) s5 (by decide) dX3_startWays_34 ?_
    refine go_iinc 1 [1, 0] (L' := [(0, vR E 60), (1, vI (v1 + 1))]) dX3_startWays_35 (by decide) rfl rfl ?_
    refine go_goto 23 dX3_startWays_38 (by decide) ?_
    exact h
theorem s_X3_weightOfWay {l : Launch} {E : Ev} {Q : Int → Sh → Dm → Prop} {G : Sh} {D : Dm} (hL : Lay G)  (h : KX3_weightOfWay l E Q 4 [(0, vR E 60), (1, vJ 0), (3, vI 0)] G D) : Ct l E MX3_weightOfWay 1 0 0 [vR E 60] G D Q := by
  refine Ct.of (by decide) (Nat.le_of_ble_eq_true rfl) ?_
  show KX3_weightOfWay l E Q 0 [(0, vR E 60)] G D
  refine go_lconst (x := 0) dX3_weightOfWay_0 rfl ?_
  refine go_lstore_n [1, 0] (L' := [(0, vR E 60), (1, vJ 0)]) dX3_weightOfWay_1 rfl (by decide) rfl ?_
  refine go_iconst dX3_weightOfWay_2 ?_
  refine go_istore_n [1, 2, 0] (L' := [(0, vR E 60), (1, vJ 0), (3, vI 0)]) dX3_weightOfWay_3 rfl (by decide) rfl ?_
  exact h
theorem s_X3_weightOfWay_4 {l : Launch} {E : Ev} {Q : Int → Sh → Dm → Prop} {G : Sh} {D : Dm} (hL : Lay G) {v1 v3 : Int}  (h : ((-2147483648 ≤ v3 ∧ v3 < 2147483648)) ∧ (((D 1 2) ≤ v3 → Q v1 G D) ∧ (v3 < (D 1 2) → ((0 ≤ v3 ∧ v3 < 3) ∧ (0 ≤ ((v3 * 256) + (D 64 v3)) ∧ ((v3 * 256) + (D 64 v3)) < 768)) ∧ KX3_weightOfWay l E Q 4 [(0, vR E 60), (1, vJ (v1 + (D 62 ((v3 * 256) + (D 64 v3))))), (3, vI (v3 + 1))] G D))) : KX3_weightOfWay l E Q 4 [(0, vR E 60), (1, vJ v1), (3, vI v3)] G D := by
  obtain ⟨s1, h⟩ := h
  refine go_iload_n 2 dX3_weightOfWay_4 rfl rfl ?_
  refine go_aload_n 0 dX3_weightOfWay_5 rfl rfl ?_
  refine go_getR 0 f_X3_32 rfl (hL.1 60 _ rfl) (hL.2.1 60 0 _ rfl (by decide)) dX3_weightOfWay_6 ?_
  refine go_getI 2 (i := 2) f_X3_45 rfl (hL.1 1 _ rfl) dX3_weightOfWay_9 ?_
  refine go_rngI (c := 1) (i := 2) (hL.1 1 _ rfl) rfl (fun (q2 : -2147483648 ≤ (D 1 2) ∧ (D 1 2) < 2147483648) => ?_)
  refine go_icmp_ge 41 dX3_weightOfWay_12 (by decide) s1 q2 (fun c3 => ?_) (fun c3 => ?_)
  · have h := h.1 c3
    refine go_lload_n 1 dX3_weightOfWay_41 rfl rfl ?_
    exact go_lreturn (Nat.le_refl _) (Nat.le_refl _) rfl dX3_weightOfWay_42 h
  · have h := h.2 c3
    obtain ⟨s5, h⟩ := h
    refine go_lload_n 1 dX3_weightOfWay_15 rfl rfl ?_
    refine go_aload_n 0 dX3_weightOfWay_16 rfl rfl ?_
    refine go_getR 3 f_X3_15 rfl (hL.1 60 _ rfl) (hL.2.1 60 3 _ rfl (by decide)) dX3_weightOfWay_17 ?_
    refine go_iload_n 2 dX3_weightOfWay_20 rfl rfl ?_
    refine go_sipush dX3_weightOfWay_21 (by decide) ?_
    refine go_imul dX3_weightOfWay_24 ?_
    refine go_aload_n 0 dX3_weightOfWay_25 rfl rfl ?_
    refine go_getR 5 f_X3_22 rfl (hL.1 60 _ rfl) (hL.2.1 60 5 _ rfl (by decide)) dX3_weightOfWay_26 ?_
    refine go_iload_n 2 dX3_weightOfWay_29 rfl rfl ?_
    refine go_iaload (hL.1 64 _ rfl) (b := 3) rfl (by decide) s5.1 dX3_weightOfWay_30 ?_
    refine go_iadd dX3_weightOfWay_31 ?_
    refine go_laload (hL.1 62 _ rfl) (b := 768) rfl (by decide) s5.2 dX3_weightOfWay_32 ?_
    refine go_ladd dX3_weightOfWay_33 ?_
    refine go_lstore_n [1, 0, 2] (L' := [(0, vR E 60), (1, vJ (v1 + (D 62 ((v3 * 256) + (D 64 v3))))), (3, vI v3)]) dX3_weightOfWay_34 rfl (by decide) rfl ?_
    refine go_iinc 2 [1, 2, 0] (L' := [(0, vR E 60), (1, vJ (v1 + (D 62 ((v3 * 256) + (D 64 v3))))), (3, vI (v3 + 1))]) dX3_weightOfWay_35 (by decide) rfl rfl ?_
    refine go_goto 4 dX3_weightOfWay_38 (by decide) ?_
    exact h
theorem s_X3_worstOfWay {l : Launch} {E : Ev} {Q : Int → Sh → Dm → Prop} {G : Sh} {D : Dm} (hL : Lay G)  (h : KX3_worstOfWay l E Q 10 [(0, vR E 60), (1, vJ 0), (3, vJ 0), (5, vJ 0), (7, vI 0)] G D) : Ct l E MX3_worstOfWay 0 0 0 [vR E 60] G D Q := by
  refine Ct.of (by decide) (Nat.le_of_ble_eq_true rfl) ?_
  show KX3_worstOfWay l E Q 0 [(0, vR E 60)] G D
  refine go_lconst (x := 0) dX3_worstOfWay_0 rfl ?_
  refine go_lstore_n [1, 0] (L' := [(0, vR E 60), (1, vJ 0)]) dX3_worstOfWay_1 rfl (by decide) rfl ?_
  refine go_lconst (x := 0) dX3_worstOfWay_2 rfl ?_
  refine go_lstore_n [1, 2, 0] (L' := [(0, vR E 60), (1, vJ 0), (3, vJ 0)]) dX3_worstOfWay_3 rfl (by decide) rfl ?_
  refine go_lconst (x := 0) dX3_worstOfWay_4 rfl ?_
  refine go_lstore [1, 2, 3, 0] (L' := [(0, vR E 60), (1, vJ 0), (3, vJ 0), (5, vJ 0)]) dX3_worstOfWay_5 (by decide) rfl ?_
  refine go_iconst dX3_worstOfWay_7 ?_
  refine go_istore [1, 2, 3, 4, 0] (L' := [(0, vR E 60), (1, vJ 0), (3, vJ 0), (5, vJ 0), (7, vI 0)]) dX3_worstOfWay_8 (by decide) rfl ?_
  exact h
theorem s_X3_worstOfWay_10 {l : Launch} {E : Ev} {Q : Int → Sh → Dm → Prop} {G : Sh} {D : Dm} (hL : Lay G) {v1 v3 v5 v7 : Int}  (h : ((-2147483648 ≤ v7 ∧ v7 < 2147483648)) ∧ (((D 1 2) ≤ v7 → ((-9223372036854775808 ≤ v5 ∧ v5 < 9223372036854775808)) ∧ ((v5 = 0 → ((-9223372036854775808 ≤ v3 ∧ v3 < 9223372036854775808)) ∧ ((v3 = 0 → ((-9223372036854775808 ≤ v1 ∧ v1 < 9223372036854775808)) ∧ ((v1 = 0 → Q 0 G D) ∧ (v1 ≠ 0 → Q 1 G D))) ∧ (v3 ≠ 0 → Q 2 G D))) ∧ (v5 ≠ 0 → Q 3 G D))) ∧ (v7 < (D 1 2) → ((0 ≤ v7 ∧ v7 < 3) ∧ (0 ≤ ((v7 * 256) + (D 64 v7)) ∧ ((v7 * 256) + (D 64 v7)) < 768)) ∧ KX3_worstOfWay l E Q 10 [(0, vR E 60), (1, vJ (jO v1 (D 61 ((v7 * 256) + (D 64 v7))))), (3, vJ (jO v3 (jA v1 (D 61 ((v7 * 256) + (D 64 v7)))))), (5, vJ (jO v5 (jA v3 (D 61 ((v7 * 256) + (D 64 v7)))))), (7, vI (v7 + 1))] G D))) : KX3_worstOfWay l E Q 10 [(0, vR E 60), (1, vJ v1), (3, vJ v3), (5, vJ v5), (7, vI v7)] G D := by
  obtain ⟨s1, h⟩ := h
  refine go_iload 4 dX3_worstOfWay_10 rfl ?_
  refine go_aload_n 0 dX3_worstOfWay_12 rfl rfl ?_
  refine go_getR 0 f_X3_32 rfl (hL.1 60 _ rfl) (hL.2.1 60 0 _ rfl (by decide)) dX3_worstOfWay_13 ?_
  refine go_getI 2 (i := 2) f_X3_45 rfl (hL.1 1 _ rfl) dX3_worstOfWay_16 ?_
  refine go_rngI (c := 1) (i := 2) (hL.1 1 _ rfl) rfl (fun (q2 : -2147483648 ≤ (D 1 2) ∧ (D 1 2) < 2147483648) => ?_)
  refine go_icmp_ge 70 dX3_worstOfWay_19 (by decide) s1 q2 (fun c3 => ?_) (fun c3 => ?_)
  · have h := h.1 c3
    obtain ⟨s4, h⟩ := h
    refine go_lload 3 dX3_worstOfWay_70 rfl ?_
    refine go_lconst (x := 0) dX3_worstOfWay_72 rfl ?_
    refine go_lcmp_eq 79 dX3_worstOfWay_73 dX3_worstOfWay_74 (by decide) s4 (by decide) (fun c5 => ?_) (fun c5 => ?_)
    · have h := h.1 c5
      obtain ⟨s6, h⟩ := h
      refine go_lload_n 2 dX3_worstOfWay_79 rfl rfl ?_
      refine go_lconst (x := 0) dX3_worstOfWay_80 rfl ?_
      refine go_lcmp_eq 87 dX3_worstOfWay_81 dX3_worstOfWay_82 (by decide) s6 (by decide) (fun c7 => ?_) (fun c7 => ?_)
      · have h := h.1 c7
        obtain ⟨s8, h⟩ := h
        refine go_lload_n 1 dX3_worstOfWay_87 rfl rfl ?_
        refine go_lconst (x := 0) dX3_worstOfWay_88 rfl ?_
        refine go_lcmp_eq 97 dX3_worstOfWay_89 dX3_worstOfWay_90 (by decide) s8 (by decide) (fun c9 => ?_) (fun c9 => ?_)
        · have h := h.1 c9
          refine go_iconst dX3_worstOfWay_97 ?_
          exact go_ireturn (Nat.le_refl _) (Nat.le_refl _) rfl dX3_worstOfWay_98 h
        · have h := h.2 c9
          refine go_iconst dX3_worstOfWay_93 ?_
          refine go_goto 98 dX3_worstOfWay_94 (by decide) ?_
          exact go_ireturn (Nat.le_refl _) (Nat.le_refl _) rfl dX3_worstOfWay_98 h
      · have h := h.2 c7
        refine go_iconst dX3_worstOfWay_85 ?_
        exact go_ireturn (Nat.le_refl _) (Nat.le_refl _) rfl dX3_worstOfWay_86 h
    · have h := h.2 c5
      refine go_iconst dX3_worstOfWay_77 ?_
      exact go_ireturn (Nat.le_refl _) (Nat.le_refl _) rfl dX3_worstOfWay_78 h
  · have h := h.2 c3
    obtain ⟨s14, h⟩ := h
    refine go_aload_n 0 dX3_worstOfWay_22 rfl rfl ?_
    refine go_getR 2 f_X3_11 rfl (hL.1 60 _ rfl) (hL.2.1 60 2 _ rfl (by decide)) dX3_worstOfWay_23 ?_
    refine go_iload 4 dX3_worstOfWay_26 rfl ?_
    refine go_sipush dX3_worstOfWay_28 (by decide) ?_
    refine go_imul dX3_worstOfWay_31 ?_
    refine go_aload_n 0 dX3_worstOfWay_32 rfl rfl ?_
    refine go_getR 5 f_X3_22 rfl (hL.1 60 _ rfl) (hL.2.1 60 5 _ rfl (by decide)) dX3_worstOfWay_33 ?_
    refine go_iload 4 dX3_worstOfWay_36 rfl ?_
    refine go_iaload (hL.1 64 _ rfl) (b := 3) rfl (by decide) s14.1 dX3_worstOfWay_38 ?_
    refine go_iadd dX3_worstOfWay_39 ?_
    refine go_laload (hL.1 61 _ rfl) (b := 768) rfl (by decide) s14.2 dX3_worstOfWay_40 ?_
    refine go_lstore [1, 2, 3, 4, 5, 0] (L' := [(0, vR E 60), (1, vJ v1), (3, vJ v3), (5, vJ v5), (7, vI v7), (8, vJ (D 61 ((v7 * 256) + (D 64 v7))))]) dX3_worstOfWay_41 (by decide) rfl ?_
    refine go_lload 3 dX3_worstOfWay_43 rfl ?_
    refine go_lload_n 2 dX3_worstOfWay_45 rfl rfl ?_
    refine go_lload 5 dX3_worstOfWay_46 rfl ?_
    refine go_land dX3_worstOfWay_48 ?_
    refine go_lor dX3_worstOfWay_49 ?_
    refine go_lstore [1, 2, 3, 0, 4, 5] (L' := [(0, vR E 60), (1, vJ v1), (3, vJ v3), (5, vJ (jO v5 (jA v3 (D 61 ((v7 * 256) + (D 64 v7)))))), (7, vI v7), (8, vJ (D 61 ((v7 * 256) + (D 64 v7))))]) dX3_worstOfWay_50 (by decide) rfl ?_
    refine go_lload_n 2 dX3_worstOfWay_52 rfl rfl ?_
    refine go_lload_n 1 dX3_worstOfWay_53 rfl rfl ?_
    refine go_lload 5 dX3_worstOfWay_54 rfl ?_
    refine go_land dX3_worstOfWay_56 ?_
    refine go_lor dX3_worstOfWay_57 ?_
    refine go_lstore_n [1, 2, 0, 3, 4, 5] (L' := [(0, vR E 60), (1, vJ v1), (3, vJ (jO v3 (jA v1 (D 61 ((v7 * 256) + (D 64 v7)))))), (5, vJ (jO v5 (jA v3 (D 61 ((v7 * 256) + (D 64 v7)))))), (7, vI v7), (8, vJ (D 61 ((v7 * 256) + (D 64 v7))))]) dX3_worstOfWay_58 rfl (by decide) rfl ?_
    refine go_lload_n 1 dX3_worstOfWay_59 rfl rfl ?_
    refine go_lload 5 dX3_worstOfWay_60 rfl ?_
    refine go_lor dX3_worstOfWay_62 ?_
    refine go_lstore_n [1, 0, 2, 3, 4, 5] (L' := [(0, vR E 60), (1, vJ (jO v1 (D 61 ((v7 * 256) + (D 64 v7))))), (3, vJ (jO v3 (jA v1 (D 61 ((v7 * 256) + (D 64 v7)))))), (5, vJ (jO v5 (jA v3 (D 61 ((v7 * 256) + (D 64 v7)))))), (7, vI v7), (8, vJ (D 61 ((v7 * 256) + (D 64 v7))))]) dX3_worstOfWay_63 rfl (by decide) rfl ?_
    refine go_iinc 4 [1, 2, 3, 4, 0, 5] (L' := [(0, vR E 60), (1, vJ (jO v1 (D 61 ((v7 * 256) + (D 64 v7))))), (3, vJ (jO v3 (jA v1 (D 61 ((v7 * 256) + (D 64 v7)))))), (5, vJ (jO v5 (jA v3 (D 61 ((v7 * 256) + (D 64 v7)))))), (7, vI (v7 + 1)), (8, vJ (D 61 ((v7 * 256) + (D 64 v7))))]) dX3_worstOfWay_64 (by decide) rfl rfl ?_
    refine go_goto 10 dX3_worstOfWay_67 (by decide) ?_
    refine go_sub [0, 1, 2, 3, 4] (L' := [(0, vR E 60), (1, vJ (jO v1 (D 61 ((v7 * 256) + (D 64 v7))))), (3, vJ (jO v3 (jA v1 (D 61 ((v7 * 256) + (D 64 v7)))))), (5, vJ (jO v5 (jA v3 (D 61 ((v7 * 256) + (D 64 v7)))))), (7, vI (v7 + 1))]) rfl ?_
    exact h
theorem s_X3_turnToNextWay {l : Launch} {E : Ev} {Q : Int → Sh → Dm → Prop} {G : Sh} {D : Dm} (hL : Lay G)  (h : KX3_turnToNextWay l E Q 10 [(0, vR E 60), (1, vI ((D 1 0) - 1))] G D) : Ct l E MX3_turnToNextWay 0 0 0 [vR E 60] G D Q := by
  refine Ct.of (by decide) (Nat.le_of_ble_eq_true rfl) ?_
  show KX3_turnToNextWay l E Q 0 [(0, vR E 60)] G D
  refine go_aload_n 0 dX3_turnToNextWay_0 rfl rfl ?_
  refine go_getR 0 f_X3_32 rfl (hL.1 60 _ rfl) (hL.2.1 60 0 _ rfl (by decide)) dX3_turnToNextWay_1 ?_
  refine go_getI 0 (i := 0) f_X3_40 rfl (hL.1 1 _ rfl) dX3_turnToNextWay_4 ?_
  refine go_iconst dX3_turnToNextWay_7 ?_
  refine go_isub dX3_turnToNextWay_8 ?_
  refine go_istore_n [1, 0] (L' := [(0, vR E 60), (1, vI ((D 1 0) - 1))]) dX3_turnToNextWay_9 rfl (by decide) rfl ?_
  exact h
theorem s_X3_turnToNextWay_10 {l : Launch} {E : Ev} {Q : Int → Sh → Dm → Prop} {G : Sh} {D : Dm} (hL : Lay G) {v1 : Int}  (h : ((-2147483648 ≤ v1 ∧ v1 < 2147483648)) ∧ ((v1 < 0 → Q 0 G D) ∧ (0 ≤ v1 → ((0 ≤ v1 ∧ v1 < 8) ∧ (-2147483648 ≤ ((D 63 v1) + 1) ∧ ((D 63 v1) + 1) < 2147483648)) ∧ (((D 1 2) ≤ ((D 63 v1) + 1) → ((0 ≤ (D 63 v1) ∧ (D 63 v1) < 3)) ∧ KX3_turnToNextWay l E Q 10 [(0, vR E 60), (1, vI (v1 + (-1)))] G (upd2 (upd2 (upd2 D 63 v1 0) 64 (D 63 v1) (iA (D 64 (D 63 v1)) (iX (iSl 1 v1) (-1)))) 64 0 (iO ((upd2 (upd2 D 63 v1 0) 64 (D 63 v1) (iA (D 64 (D 63 v1)) (iX (iSl 1 v1) (-1)))) 64 0) (iSl 1 v1)))) ∧ (((D 63 v1) + 1) < (D 1 2) → ((0 ≤ (D 63 v1) ∧ (D 63 v1) < 3) ∧ (0 ≤ ((D 63 v1) + 1) ∧ ((D 63 v1) + 1) < 3)) ∧ ((((D 63 v1) + 1) = 0 → KX3_turnToNextWay l E Q 10 [(0, vR E 60), (1, vI (v1 + (-1)))] G (upd2 (upd2 (upd2 D 63 v1 ((D 63 v1) + 1)) 64 (D 63 v1) (iA (D 64 (D 63 v1)) (iX (iSl 1 v1) (-1)))) 64 ((D 63 v1) + 1) (iO ((upd2 (upd2 D 63 v1 ((D 63 v1) + 1)) 64 (D 63 v1) (iA (D 64 (D 63 v1)) (iX (iSl 1 v1) (-1)))) 64 ((D 63 v1) + 1)) (iSl 1 v1)))) ∧ (((D 63 v1) + 1) ≠ 0 → Q 1 G (upd2 (upd2 (upd2 D 63 v1 ((D 63 v1) + 1)) 64 (D 63 v1) (iA (D 64 (D 63 v1)) (iX (iSl 1 v1) (-1)))) 64 ((D 63 v1) + 1) (iO ((upd2 (upd2 D 63 v1 ((D 63 v1) + 1)) 64 (D 63 v1) (iA (D 64 (D 63 v1)) (iX (iSl 1 v1) (-1)))) 64 ((D 63 v1) + 1)) (iSl 1 v1)))))))))) : KX3_turnToNextWay l E Q 10 [(0, vR E 60), (1, vI v1)] G D := by
  obtain ⟨s1, h⟩ := h
  refine go_iload_n 1 dX3_turnToNextWay_10 rfl rfl ?_
  refine go_if_lt 87 dX3_turnToNextWay_11 (by decide) s1 (fun c2 => ?_) (fun c2 => ?_)
  · have h := h.1 c2
    refine go_iconst dX3_turnToNextWay_87 ?_
    exact go_zreturn (Nat.le_refl _) (Nat.le_refl _) rfl (by decide) dX3_turnToNextWay_88 h
  · have h := h.2 c2
    obtain ⟨s4, h⟩ := h
    refine go_aload_n 0 dX3_turnToNextWay_14 rfl rfl ?_
    refine go_getR 4 f_X3_18 rfl (hL.1 60 _ rfl) (hL.2.1 60 4 _ rfl (by decide)) dX3_turnToNextWay_15 ?_
    refine go_iload_n 1 dX3_turnToNextWay_18 rfl rfl ?_
    refine go_iaload (hL.1 63 _ rfl) (b := 8) rfl (by decide) s4.1 dX3_turnToNextWay_19 ?_
    refine go_istore_n [1, 2, 0] (L' := [(0, vR E 60), (1, vI v1), (2, vI (D 63 v1))]) dX3_turnToNextWay_20 rfl (by decide) rfl ?_
    refine go_iload_n 2 dX3_turnToNextWay_21 rfl rfl ?_
    refine go_iconst dX3_turnToNextWay_22 ?_
    refine go_iadd dX3_turnToNextWay_23 ?_
    refine go_aload_n 0 dX3_turnToNextWay_24 rfl rfl ?_
    refine go_getR 0 f_X3_32 rfl (hL.1 60 _ rfl) (hL.2.1 60 0 _ rfl (by decide)) dX3_turnToNextWay_25 ?_
    refine go_getI 2 (i := 2) f_X3_45 rfl (hL.1 1 _ rfl) dX3_turnToNextWay_28 ?_
    refine go_rngI (c := 1) (i := 2) (hL.1 1 _ rfl) rfl (fun (q5 : -2147483648 ≤ (D 1 2) ∧ (D 1 2) < 2147483648) => ?_)
    refine go_icmp_ge 40 dX3_turnToNextWay_31 (by decide) s4.2 q5 (fun c6 => ?_) (fun c6 => ?_)
    · have h := h.1 c6
      obtain ⟨s7, h⟩ := h
      refine go_iconst dX3_turnToNextWay_40 ?_
      refine go_istore_n [1, 2, 3, 0] (L' := [(0, vR E 60), (1, vI v1), (2, vI (D 63 v1)), (3, vI 0)]) dX3_turnToNextWay_41 rfl (by decide) rfl ?_
      refine go_aload_n 0 dX3_turnToNextWay_42 rfl rfl ?_
      refine go_getR 4 f_X3_18 rfl (hL.1 60 _ rfl) (hL.2.1 60 4 _ rfl (by decide)) dX3_turnToNextWay_43 ?_
      refine go_iload_n 1 dX3_turnToNextWay_46 rfl rfl ?_
      refine go_iload_n 3 dX3_turnToNextWay_47 rfl rfl ?_
      refine go_iastore (hL.1 63 _ rfl) (b := 8) rfl (by decide) s4.1 (by decide) dX3_turnToNextWay_48 ?_
      refine go_aload_n 0 dX3_turnToNextWay_49 rfl rfl ?_
      refine go_getR 5 f_X3_22 rfl (hL.1 60 _ rfl) (hL.2.1 60 5 _ rfl (by decide)) dX3_turnToNextWay_50 ?_
      refine go_iload_n 2 dX3_turnToNextWay_53 rfl rfl ?_
      refine go_dup2 rfl rfl dX3_turnToNextWay_54 ?_
      refine go_iaload (hL.1 64 _ rfl) (b := 3) rfl (by decide) s7 dX3_turnToNextWay_55 ?_
      refine go_iconst dX3_turnToNextWay_56 ?_
      refine go_iload_n 1 dX3_turnToNextWay_57 rfl rfl ?_
      refine go_ishl dX3_turnToNextWay_58 ?_
      refine go_iconst dX3_turnToNextWay_59 ?_
      refine go_ixor dX3_turnToNextWay_60 ?_
      refine go_iand dX3_turnToNextWay_61 ?_
      refine go_iastore (hL.1 64 _ rfl) (b := 3) rfl (by decide) s7 (r32 _) dX3_turnToNextWay_62 ?_
      refine go_aload_n 0 dX3_turnToNextWay_63 rfl rfl ?_
      refine go_getR 5 f_X3_22 rfl (hL.1 60 _ rfl) (hL.2.1 60 5 _ rfl (by decide)) dX3_turnToNextWay_64 ?_
      refine go_iload_n 3 dX3_turnToNextWay_67 rfl rfl ?_
      refine go_dup2 rfl rfl dX3_turnToNextWay_68 ?_
      refine go_iaload (hL.1 64 _ rfl) (b := 3) rfl (by decide) (by decide) dX3_turnToNextWay_69 ?_
      refine go_iconst dX3_turnToNextWay_70 ?_
      refine go_iload_n 1 dX3_turnToNextWay_71 rfl rfl ?_
      refine go_ishl dX3_turnToNextWay_72 ?_
      refine go_ior dX3_turnToNextWay_73 ?_
      refine go_iastore (hL.1 64 _ rfl) (b := 3) rfl (by decide) (by decide) (r32 _) dX3_turnToNextWay_74 ?_
      refine go_iload_n 3 dX3_turnToNextWay_75 rfl rfl ?_
      refine go_if_eq 81 dX3_turnToNextWay_76 (by decide) (by decide) (fun _ => ?_) (fun hx => absurd hx (by decide))
      refine go_iinc 1 [1, 0, 2, 3] (L' := [(0, vR E 60), (1, vI (v1 + (-1))), (2, vI (D 63 v1)), (3, vI 0)]) dX3_turnToNextWay_81 (by decide) rfl rfl ?_
      refine go_goto 10 dX3_turnToNextWay_84 (by decide) ?_
      refine go_sub [0, 1] (L' := [(0, vR E 60), (1, vI (v1 + (-1)))]) rfl ?_
      exact h
    · have h := h.2 c6
      obtain ⟨s8, h⟩ := h
      refine go_iload_n 2 dX3_turnToNextWay_34 rfl rfl ?_
      refine go_iconst dX3_turnToNextWay_35 ?_
      refine go_iadd dX3_turnToNextWay_36 ?_
      refine go_goto 41 dX3_turnToNextWay_37 (by decide) ?_
      refine go_istore_n [1, 2, 3, 0] (L' := [(0, vR E 60), (1, vI v1), (2, vI (D 63 v1)), (3, vI ((D 63 v1) + 1))]) dX3_turnToNextWay_41 rfl (by decide) rfl ?_
      refine go_aload_n 0 dX3_turnToNextWay_42 rfl rfl ?_
      refine go_getR 4 f_X3_18 rfl (hL.1 60 _ rfl) (hL.2.1 60 4 _ rfl (by decide)) dX3_turnToNextWay_43 ?_
      refine go_iload_n 1 dX3_turnToNextWay_46 rfl rfl ?_
      refine go_iload_n 3 dX3_turnToNextWay_47 rfl rfl ?_
      refine go_iastore (hL.1 63 _ rfl) (b := 8) rfl (by decide) s4.1 s4.2 dX3_turnToNextWay_48 ?_
      refine go_aload_n 0 dX3_turnToNextWay_49 rfl rfl ?_
      refine go_getR 5 f_X3_22 rfl (hL.1 60 _ rfl) (hL.2.1 60 5 _ rfl (by decide)) dX3_turnToNextWay_50 ?_
      refine go_iload_n 2 dX3_turnToNextWay_53 rfl rfl ?_
      refine go_dup2 rfl rfl dX3_turnToNextWay_54 ?_
      refine go_iaload (hL.1 64 _ rfl) (b := 3) rfl (by decide) s8.1 dX3_turnToNextWay_55 ?_
      refine go_iconst dX3_turnToNextWay_56 ?_
      refine go_iload_n 1 dX3_turnToNextWay_57 rfl rfl ?_
      refine go_ishl dX3_turnToNextWay_58 ?_
      refine go_iconst dX3_turnToNextWay_59 ?_
      refine go_ixor dX3_turnToNextWay_60 ?_
      refine go_iand dX3_turnToNextWay_61 ?_
      refine go_iastore (hL.1 64 _ rfl) (b := 3) rfl (by decide) s8.1 (r32 _) dX3_turnToNextWay_62 ?_
      refine go_aload_n 0 dX3_turnToNextWay_63 rfl rfl ?_
      refine go_getR 5 f_X3_22 rfl (hL.1 60 _ rfl) (hL.2.1 60 5 _ rfl (by decide)) dX3_turnToNextWay_64 ?_
      refine go_iload_n 3 dX3_turnToNextWay_67 rfl rfl ?_
      refine go_dup2 rfl rfl dX3_turnToNextWay_68 ?_
      refine go_iaload (hL.1 64 _ rfl) (b := 3) rfl (by decide) s8.2 dX3_turnToNextWay_69 ?_
      refine go_iconst dX3_turnToNextWay_70 ?_
      refine go_iload_n 1 dX3_turnToNextWay_71 rfl rfl ?_
      refine go_ishl dX3_turnToNextWay_72 ?_
      refine go_ior dX3_turnToNextWay_73 ?_
      refine go_iastore (hL.1 64 _ rfl) (b := 3) rfl (by decide) s8.2 (r32 _) dX3_turnToNextWay_74 ?_
      refine go_iload_n 3 dX3_turnToNextWay_75 rfl rfl ?_
      refine go_if_eq 81 dX3_turnToNextWay_76 (by decide) s4.2 (fun c9 => ?_) (fun c9 => ?_)
      · have h := h.1 c9
        refine go_iinc 1 [1, 0, 2, 3] (L' := [(0, vR E 60), (1, vI (v1 + (-1))), (2, vI (D 63 v1)), (3, vI ((D 63 v1) + 1))]) dX3_turnToNextWay_81 (by decide) rfl rfl ?_
        refine go_goto 10 dX3_turnToNextWay_84 (by decide) ?_
        refine go_sub [0, 1] (L' := [(0, vR E 60), (1, vI (v1 + (-1)))]) rfl ?_
        exact h
      · have h := h.2 c9
        refine go_iconst dX3_turnToNextWay_79 ?_
        exact go_zreturn (Nat.le_refl _) (Nat.le_refl _) rfl (by decide) dX3_turnToNextWay_80 h
theorem s_X3_findLeast {l : Launch} {E : Ev} {Q : Int → Sh → Dm → Prop} {G : Sh} {D : Dm} (hL : Lay G) {v1 : Int}  (h : KX3_findLeast l E Q 2 [(0, vR E 60), (1, vI v1), (2, vI 0)] G D) : Ct l E MX3_findLeast 1 0 0 [vR E 60, vI v1] G D Q := by
  refine Ct.of (by decide) (Nat.le_of_ble_eq_true rfl) ?_
  show KX3_findLeast l E Q 0 [(0, vR E 60), (1, vI v1)] G D
  refine go_iconst dX3_findLeast_0 ?_
  refine go_istore_n [1, 2, 0] (L' := [(0, vR E 60), (1, vI v1), (2, vI 0)]) dX3_findLeast_1 rfl (by decide) rfl ?_
  exact h
theorem s_X3_findLeast_2 {l : Launch} {E : Ev} {Q : Int → Sh → Dm → Prop} {G : Sh} {D : Dm} (hL : Lay G) {v1 v2 : Int}  (h : ((-2147483648 ≤ v2 ∧ v2 < 2147483648)) ∧ (((D 1 2) ≤ v2 → C0 l E MX3_startWays 2 [vR E 60] G D (fun r5 D5 => KX3_findLeast l E Q 69 [(0, vR E 60), (1, vI v1), (2, vJ 9223372036854775807), (4, vI 1), (5, vI 0)] G (upd2 D5 60 7 (D5 1 0)))) ∧ (v2 < (D 1 2) → KX3_findLeast l E Q 15 [(0, vR E 60), (1, vI v1), (2, vI v2), (3, vI 0)] G D))) : KX3_findLeast l E Q 2 [(0, vR E 60), (1, vI v1), (2, vI v2)] G D := by
  obtain ⟨s1, h⟩ := h
  refine go_iload_n 2 dX3_findLeast_2 rfl rfl ?_
  refine go_aload_n 0 dX3_findLeast_3 rfl rfl ?_
  refine go_getR 0 f_X3_32 rfl (hL.1 60 _ rfl) (hL.2.1 60 0 _ rfl (by decide)) dX3_findLeast_4 ?_
  refine go_getI 2 (i := 2) f_X3_45 rfl (hL.1 1 _ rfl) dX3_findLeast_7 ?_
  refine go_rngI (c := 1) (i := 2) (hL.1 1 _ rfl) rfl (fun (q2 : -2147483648 ≤ (D 1 2) ∧ (D 1 2) < 2147483648) => ?_)
  refine go_icmp_ge 44 dX3_findLeast_10 (by decide) s1 q2 (fun c3 => ?_) (fun c3 => ?_)
  · have h := h.1 c3
    refine go_aload_n 0 dX3_findLeast_44 rfl rfl ?_
    refine go_vV (M := MX3_startWays) [] [] mv_X3_56 (hL.1 60 _ rfl) rfl (by decide) ⟨Nat.le_of_ble_eq_true rfl, Nat.le_of_ble_eq_true rfl⟩ ⟨Nat.le_refl _, Nat.le_refl _⟩ rfl rfl (Nat.le_of_ble_eq_true rfl) dX3_findLeast_45 h (fun r5 D5 h => ?_)
    refine go_aload_n 0 dX3_findLeast_48 rfl rfl ?_
    refine go_aload_n 0 dX3_findLeast_49 rfl rfl ?_
    refine go_getR 0 f_X3_32 rfl (hL.1 60 _ rfl) (hL.2.1 60 0 _ rfl (by decide)) dX3_findLeast_50 ?_
    refine go_getI 0 (i := 0) f_X3_40 rfl (hL.1 1 _ rfl) dX3_findLeast_53 ?_
    refine go_rngI (c := 1) (i := 0) (hL.1 1 _ rfl) rfl (fun (q7 : -2147483648 ≤ (D5 1 0) ∧ (D5 1 0) < 2147483648) => ?_)
    refine go_putI 7 (i := 7) q7 f_X3_28 rfl (hL.1 60 _ rfl) dX3_findLeast_56 ?_
    refine go_ldc2 (x := 9223372036854775807) k_X3_59 dX3_findLeast_59 ?_
    refine go_lstore_n [1, 2, 0] (L' := [(0, vR E 60), (1, vI v1), (2, vJ 9223372036854775807)]) dX3_findLeast_62 rfl (by decide) rfl ?_
    refine go_iconst dX3_findLeast_63 ?_
    refine go_istore [1, 2, 3, 0] (L' := [(0, vR E 60), (1, vI v1), (2, vJ 9223372036854775807), (4, vI 1)]) dX3_findLeast_64 (by decide) rfl ?_
    refine go_iconst dX3_findLeast_66 ?_
    refine go_istore [1, 2, 3, 4, 0] (L' := [(0, vR E 60), (1, vI v1), (2, vJ 9223372036854775807), (4, vI 1), (5, vI 0)]) dX3_findLeast_67 (by decide) rfl ?_
    exact h
  · have h := h.2 c3
    refine go_iconst dX3_findLeast_13 ?_
    refine go_istore_n [1, 2, 3, 0] (L' := [(0, vR E 60), (1, vI v1), (2, vI v2), (3, vI 0)]) dX3_findLeast_14 rfl (by decide) rfl ?_
    exact h
theorem s_X3_findLeast_15 {l : Launch} {E : Ev} {Q : Int → Sh → Dm → Prop} {G : Sh} {D : Dm} (hL : Lay G) {v1 v2 v3 : Int}  (h : ((-2147483648 ≤ v3 ∧ v3 < 2147483648)) ∧ (((iSl 1 (D 1 0)) ≤ v3 → KX3_findLeast l E Q 2 [(0, vR E 60), (1, vI v1), (2, vI (v2 + 1))] G D) ∧ (v3 < (iSl 1 (D 1 0)) → C0 l E MX3_fillHungry 2 [vR E 60, vI v2, vI v3] G D (fun r6 D6 => KX3_findLeast l E Q 15 [(0, vR E 60), (1, vI v1), (2, vI v2), (3, vI (v3 + 1))] G D6)))) : KX3_findLeast l E Q 15 [(0, vR E 60), (1, vI v1), (2, vI v2), (3, vI v3)] G D := by
  obtain ⟨s1, h⟩ := h
  refine go_iload_n 3 dX3_findLeast_15 rfl rfl ?_
  refine go_aload_n 0 dX3_findLeast_16 rfl rfl ?_
  refine go_getR 0 f_X3_32 rfl (hL.1 60 _ rfl) (hL.2.1 60 0 _ rfl (by decide)) dX3_findLeast_17 ?_
  refine go_vIp (M := MX8_sets) [] [vI v3] mv_X3_48 (hL.1 1 _ rfl) rfl (by decide) ⟨Nat.le_of_ble_eq_true rfl, Nat.le_of_ble_eq_true rfl⟩ ⟨Nat.le_refl _, Nat.le_refl _⟩ rfl rfl (Nat.le_of_ble_eq_true rfl) dX3_findLeast_20 (p_X8_sets hL) ?_
  refine go_icmp_ge 38 dX3_findLeast_23 (by decide) s1 (r32 _) (fun c3 => ?_) (fun c3 => ?_)
  · have h := h.1 c3
    refine go_iinc 2 [1, 2, 0, 3] (L' := [(0, vR E 60), (1, vI v1), (2, vI (v2 + 1)), (3, vI v3)]) dX3_findLeast_38 (by decide) rfl rfl ?_
    refine go_goto 2 dX3_findLeast_41 (by decide) ?_
    refine go_sub [0, 1, 2] (L' := [(0, vR E 60), (1, vI v1), (2, vI (v2 + 1))]) rfl ?_
    exact h
  · have h := h.2 c3
    refine go_aload_n 0 dX3_findLeast_26 rfl rfl ?_
    refine go_iload_n 2 dX3_findLeast_27 rfl rfl ?_
    refine go_iload_n 3 dX3_findLeast_28 rfl rfl ?_
    refine go_vV (M := MX3_fillHungry) [vI v2, vI v3] [] mv_X3_52 (hL.1 60 _ rfl) rfl (by decide) ⟨Nat.le_of_ble_eq_true rfl, Nat.le_of_ble_eq_true rfl⟩ ⟨Nat.le_refl _, Nat.le_refl _⟩ rfl rfl (Nat.le_of_ble_eq_true rfl) dX3_findLeast_29 h (fun r6 D6 h => ?_)
    refine go_iinc 3 [1, 2, 3, 0] (L' := [(0, vR E 60), (1, vI v1), (2, vI v2), (3, vI (v3 + 1))]) dX3_findLeast_32 (by decide) rfl rfl ?_
    refine go_goto 15 dX3_findLeast_35 (by decide) ?_
    exact h
theorem s_X3_findLeast_69 {l : Launch} {E : Ev} {Q : Int → Sh → Dm → Prop} {G : Sh} {D : Dm} (hL : Lay G) {v1 v2 v4 v5 : Int}  (h : ((-2147483648 ≤ v5 ∧ v5 < 2147483648)) ∧ ((6561 ≤ v5 → Q v2 G D) ∧ (v5 < 6561 → ((-2147483648 ≤ v4 ∧ v4 < 2147483648)) ∧ ((v4 = 0 → Q v2 G D) ∧ (v4 ≠ 0 → ((-2147483648 ≤ v1 ∧ v1 < 2147483648)) ∧ ((v1 ≠ 0 → C0 l E MX3_worstOfWay 0 [vR E 60] G D (fun r10 D10 => ((-2147483648 ≤ r10 ∧ r10 < 2147483648) ∧ (-9223372036854775808 ≤ v2 ∧ v2 < 9223372036854775808)) ∧ ((v2 ≤ r10 → C0 l E MX3_turnToNextWay 0 [vR E 60] G D10 (fun r14 D14 => KX3_findLeast l E Q 69 [(0, vR E 60), (1, vI v1), (2, vJ v2), (4, vI r14), (5, vI (v5 + 1))] G D14)) ∧ (r10 < v2 → ((0 ≤ (0 : Int) ∧ 0 ≤ (0 : Int) ∧ 0 ≤ (8 : Int) ∧ (0 : Int) + (8 : Int) ≤ 8 ∧ (0 : Int) + (8 : Int) ≤ 8)) ∧ C0 l E MX3_turnToNextWay 0 [vR E 60] G (cpy2 D10 63 0 65 0 8) (fun r17 D17 => KX3_findLeast l E Q 69 [(0, vR E 60), (1, vI v1), (2, vJ r10), (4, vI r17), (5, vI (v5 + 1))] G D17))))) ∧ (v1 = 0 → C0 l E MX3_weightOfWay 1 [vR E 60] G D (fun r20 D20 => ((-9223372036854775808 ≤ r20 ∧ r20 < 9223372036854775808) ∧ (-9223372036854775808 ≤ v2 ∧ v2 < 9223372036854775808)) ∧ ((v2 ≤ r20 → C0 l E MX3_turnToNextWay 0 [vR E 60] G D20 (fun r24 D24 => KX3_findLeast l E Q 69 [(0, vR E 60), (1, vI v1), (2, vJ v2), (4, vI r24), (5, vI (v5 + 1))] G D24)) ∧ (r20 < v2 → ((0 ≤ (0 : Int) ∧ 0 ≤ (0 : Int) ∧ 0 ≤ (8 : Int) ∧ (0 : Int) + (8 : Int) ≤ 8 ∧ (0 : Int) + (8 : Int) ≤ 8)) ∧ C0 l E MX3_turnToNextWay 0 [vR E 60] G (cpy2 D20 63 0 65 0 8) (fun r27 D27 => KX3_findLeast l E Q 69 [(0, vR E 60), (1, vI v1), (2, vJ r20), (4, vI r27), (5, vI (v5 + 1))] G D27))))))))))) : KX3_findLeast l E Q 69 [(0, vR E 60), (1, vI v1), (2, vJ v2), (4, vI v4), (5, vI v5)] G D := by
  obtain ⟨s1, h⟩ := h
  refine go_iload 4 dX3_findLeast_69 rfl ?_
  refine go_sipush dX3_findLeast_71 (by decide) ?_
  refine go_icmp_ge 137 dX3_findLeast_74 (by decide) s1 (by decide) (fun c2 => ?_) (fun c2 => ?_)
  · have h := h.1 c2
    refine go_lload_n 2 dX3_findLeast_137 rfl rfl ?_
    exact go_lreturn (Nat.le_refl _) (Nat.le_refl _) rfl dX3_findLeast_138 h
  · have h := h.2 c2
    obtain ⟨s4, h⟩ := h
    refine go_iload 3 dX3_findLeast_77 rfl ?_
    refine go_if_eq 137 dX3_findLeast_79 (by decide) s4 (fun c5 => ?_) (fun c5 => ?_)
    · have h := h.1 c5
      refine go_lload_n 2 dX3_findLeast_137 rfl rfl ?_
      exact go_lreturn (Nat.le_refl _) (Nat.le_refl _) rfl dX3_findLeast_138 h
    · have h := h.2 c5
      obtain ⟨s7, h⟩ := h
      refine go_iload_n 1 dX3_findLeast_82 rfl rfl ?_
      refine go_if_ne 93 dX3_findLeast_83 (by decide) s7 (fun c8 => ?_) (fun c8 => ?_)
      · have h := h.1 c8
        refine go_aload_n 0 dX3_findLeast_93 rfl rfl ?_
        refine go_vI (M := MX3_worstOfWay) [] [] mv_X3_65 (hL.1 60 _ rfl) rfl (by decide) ⟨Nat.le_of_ble_eq_true rfl, Nat.le_of_ble_eq_true rfl⟩ ⟨Nat.le_refl _, Nat.le_refl _⟩ rfl rfl (Nat.le_of_ble_eq_true rfl) dX3_findLeast_94 h (fun r10 D10 h => ?_)
        obtain ⟨s11, h⟩ := h
        refine go_i2l s11.1 dX3_findLeast_97 ?_
        refine go_lstore [1, 2, 3, 4, 5, 0] (L' := [(0, vR E 60), (1, vI v1), (2, vJ v2), (4, vI v4), (5, vI v5), (6, vJ r10)]) dX3_findLeast_98 (by decide) rfl ?_
        refine go_lload 5 dX3_findLeast_100 rfl ?_
        refine go_lload_n 2 dX3_findLeast_102 rfl rfl ?_
        refine go_lcmp_ge 125 dX3_findLeast_103 dX3_findLeast_104 (by decide) (rIJ s11.1) s11.2 (fun c12 => ?_) (fun c12 => ?_)
        · have h := h.1 c12
          refine go_aload_n 0 dX3_findLeast_125 rfl rfl ?_
          refine go_vI (M := MX3_turnToNextWay) [] [] mv_X3_74 (hL.1 60 _ rfl) rfl (by decide) ⟨Nat.le_of_ble_eq_true rfl, Nat.le_of_ble_eq_true rfl⟩ ⟨Nat.le_refl _, Nat.le_refl _⟩ rfl rfl (Nat.le_of_ble_eq_true rfl) dX3_findLeast_126 h (fun r14 D14 h => ?_)
          refine go_istore [1, 2, 3, 0, 4, 5] (L' := [(0, vR E 60), (1, vI v1), (2, vJ v2), (4, vI r14), (5, vI v5), (6, vJ r10)]) dX3_findLeast_129 (by decide) rfl ?_
          refine go_iinc 4 [1, 2, 3, 4, 0, 5] (L' := [(0, vR E 60), (1, vI v1), (2, vJ v2), (4, vI r14), (5, vI (v5 + 1)), (6, vJ r10)]) dX3_findLeast_131 (by decide) rfl rfl ?_
          refine go_goto 69 dX3_findLeast_134 (by decide) ?_
          refine go_sub [0, 1, 2, 3, 4] (L' := [(0, vR E 60), (1, vI v1), (2, vJ v2), (4, vI r14), (5, vI (v5 + 1))]) rfl ?_
          exact h
        · have h := h.2 c12
          obtain ⟨s16, h⟩ := h
          refine go_lload 5 dX3_findLeast_107 rfl ?_
          refine go_lstore_n [1, 2, 0, 3, 4, 5] (L' := [(0, vR E 60), (1, vI v1), (2, vJ r10), (4, vI v4), (5, vI v5), (6, vJ r10)]) dX3_findLeast_109 rfl (by decide) rfl ?_
          refine go_aload_n 0 dX3_findLeast_110 rfl rfl ?_
          refine go_getR 4 f_X3_18 rfl (hL.1 60 _ rfl) (hL.2.1 60 4 _ rfl (by decide)) dX3_findLeast_111 ?_
          refine go_iconst dX3_findLeast_114 ?_
          refine go_aload_n 0 dX3_findLeast_115 rfl rfl ?_
          refine go_getR 6 f_X3_25 rfl (hL.1 60 _ rfl) (hL.2.1 60 6 _ rfl (by decide)) dX3_findLeast_116 ?_
          refine go_iconst dX3_findLeast_119 ?_
          refine go_bipush dX3_findLeast_120 (by decide) ?_
          refine go_copyI cp_X3_68 (hL.1 63 _ rfl) (hL.1 65 _ rfl) (b0 := 8) (b1 := 8) rfl rfl ⟨(by decide), (by decide)⟩ s16 ⟨by decide, Nat.le_of_ble_eq_true rfl⟩ dX3_findLeast_122 ?_
          refine go_aload_n 0 dX3_findLeast_125 rfl rfl ?_
          refine go_vI (M := MX3_turnToNextWay) [] [] mv_X3_74 (hL.1 60 _ rfl) rfl (by decide) ⟨Nat.le_of_ble_eq_true rfl, Nat.le_of_ble_eq_true rfl⟩ ⟨Nat.le_refl _, Nat.le_refl _⟩ rfl rfl (Nat.le_of_ble_eq_true rfl) dX3_findLeast_126 h (fun r17 D17 h => ?_)
          refine go_istore [1, 2, 3, 0, 4, 5] (L' := [(0, vR E 60), (1, vI v1), (2, vJ r10), (4, vI r17), (5, vI v5), (6, vJ r10)]) dX3_findLeast_129 (by decide) rfl ?_
          refine go_iinc 4 [1, 2, 3, 4, 0, 5] (L' := [(0, vR E 60), (1, vI v1), (2, vJ r10), (4, vI r17), (5, vI (v5 + 1)), (6, vJ r10)]) dX3_findLeast_131 (by decide) rfl rfl ?_
          refine go_goto 69 dX3_findLeast_134 (by decide) ?_
          refine go_sub [0, 1, 2, 3, 4] (L' := [(0, vR E 60), (1, vI v1), (2, vJ r10), (4, vI r17), (5, vI (v5 + 1))]) rfl ?_
          exact h
      · have h := h.2 c8
        refine go_aload_n 0 dX3_findLeast_86 rfl rfl ?_
        refine go_vJ (M := MX3_weightOfWay) [] [] mv_X3_61 (hL.1 60 _ rfl) rfl (by decide) ⟨Nat.le_of_ble_eq_true rfl, Nat.le_of_ble_eq_true rfl⟩ ⟨Nat.le_refl _, Nat.le_refl _⟩ rfl rfl (Nat.le_of_ble_eq_true rfl) dX3_findLeast_87 h (fun r20 D20 h => ?_)
        obtain ⟨s21, h⟩ := h
        refine go_goto 98 dX3_findLeast_90 (by decide) ?_
        refine go_lstore [1, 2, 3, 4, 5, 0] (L' := [(0, vR E 60), (1, vI v1), (2, vJ v2), (4, vI v4), (5, vI v5), (6, vJ r20)]) dX3_findLeast_98 (by decide) rfl ?_
        refine go_lload 5 dX3_findLeast_100 rfl ?_
        refine go_lload_n 2 dX3_findLeast_102 rfl rfl ?_
        refine go_lcmp_ge 125 dX3_findLeast_103 dX3_findLeast_104 (by decide) s21.1 s21.2 (fun c22 => ?_) (fun c22 => ?_)
        · have h := h.1 c22
          refine go_aload_n 0 dX3_findLeast_125 rfl rfl ?_
          refine go_vI (M := MX3_turnToNextWay) [] [] mv_X3_74 (hL.1 60 _ rfl) rfl (by decide) ⟨Nat.le_of_ble_eq_true rfl, Nat.le_of_ble_eq_true rfl⟩ ⟨Nat.le_refl _, Nat.le_refl _⟩ rfl rfl (Nat.le_of_ble_eq_true rfl) dX3_findLeast_126 h (fun r24 D24 h => ?_)
          refine go_istore [1, 2, 3, 0, 4, 5] (L' := [(0, vR E 60), (1, vI v1), (2, vJ v2), (4, vI r24), (5, vI v5), (6, vJ r20)]) dX3_findLeast_129 (by decide) rfl ?_
          refine go_iinc 4 [1, 2, 3, 4, 0, 5] (L' := [(0, vR E 60), (1, vI v1), (2, vJ v2), (4, vI r24), (5, vI (v5 + 1)), (6, vJ r20)]) dX3_findLeast_131 (by decide) rfl rfl ?_
          refine go_goto 69 dX3_findLeast_134 (by decide) ?_
          refine go_sub [0, 1, 2, 3, 4] (L' := [(0, vR E 60), (1, vI v1), (2, vJ v2), (4, vI r24), (5, vI (v5 + 1))]) rfl ?_
          exact h
        · have h := h.2 c22
          obtain ⟨s26, h⟩ := h
          refine go_lload 5 dX3_findLeast_107 rfl ?_
          refine go_lstore_n [1, 2, 0, 3, 4, 5] (L' := [(0, vR E 60), (1, vI v1), (2, vJ r20), (4, vI v4), (5, vI v5), (6, vJ r20)]) dX3_findLeast_109 rfl (by decide) rfl ?_
          refine go_aload_n 0 dX3_findLeast_110 rfl rfl ?_
          refine go_getR 4 f_X3_18 rfl (hL.1 60 _ rfl) (hL.2.1 60 4 _ rfl (by decide)) dX3_findLeast_111 ?_
          refine go_iconst dX3_findLeast_114 ?_
          refine go_aload_n 0 dX3_findLeast_115 rfl rfl ?_
          refine go_getR 6 f_X3_25 rfl (hL.1 60 _ rfl) (hL.2.1 60 6 _ rfl (by decide)) dX3_findLeast_116 ?_
          refine go_iconst dX3_findLeast_119 ?_
          refine go_bipush dX3_findLeast_120 (by decide) ?_
          refine go_copyI cp_X3_68 (hL.1 63 _ rfl) (hL.1 65 _ rfl) (b0 := 8) (b1 := 8) rfl rfl ⟨(by decide), (by decide)⟩ s26 ⟨by decide, Nat.le_of_ble_eq_true rfl⟩ dX3_findLeast_122 ?_
          refine go_aload_n 0 dX3_findLeast_125 rfl rfl ?_
          refine go_vI (M := MX3_turnToNextWay) [] [] mv_X3_74 (hL.1 60 _ rfl) rfl (by decide) ⟨Nat.le_of_ble_eq_true rfl, Nat.le_of_ble_eq_true rfl⟩ ⟨Nat.le_refl _, Nat.le_refl _⟩ rfl rfl (Nat.le_of_ble_eq_true rfl) dX3_findLeast_126 h (fun r27 D27 h => ?_)
          refine go_istore [1, 2, 3, 0, 4, 5] (L' := [(0, vR E 60), (1, vI v1), (2, vJ r20), (4, vI r27), (5, vI v5), (6, vJ r20)]) dX3_findLeast_129 (by decide) rfl ?_
          refine go_iinc 4 [1, 2, 3, 4, 0, 5] (L' := [(0, vR E 60), (1, vI v1), (2, vJ r20), (4, vI r27), (5, vI (v5 + 1)), (6, vJ r20)]) dX3_findLeast_131 (by decide) rfl rfl ?_
          refine go_goto 69 dX3_findLeast_134 (by decide) ?_
          refine go_sub [0, 1, 2, 3, 4] (L' := [(0, vR E 60), (1, vI v1), (2, vJ r20), (4, vI r27), (5, vI (v5 + 1))]) rfl ?_
          exact h
theorem s_X4_look {l : Launch} {E : Ev} {Q : Int → Sh → Dm → Prop} {G : Sh} {D : Dm} (hL : Lay G) {v1 : Int}  (h : C0 l E MX8_heldBy 0 [vR E 1, vI v1] G D (fun r2 D2 => ((0 ≤ v1 ∧ v1 < 4) ∧ (-2147483648 ≤ r2 ∧ r2 < 2147483648)) ∧ C0 l E MX5_worthOf 1 [vR E 42, vI v1, vI r2] G (upd2 D2 58 v1 r2) (fun r4 D4 => ((-9223372036854775808 ≤ r4 ∧ r4 < 9223372036854775808)) ∧ Q 0 G (upd2 D4 59 v1 r4)))) : Ct l E MX4_look 2 0 0 [vR E 56, vI v1] G D Q := by
  refine Ct.of (by decide) (Nat.le_of_ble_eq_true rfl) ?_
  show KX4_look l E Q 0 [(0, vR E 56), (1, vI v1)] G D
  refine go_aload_n 0 dX4_look_0 rfl rfl ?_
  refine go_getR 3 f_X4_15 rfl (hL.1 56 _ rfl) (hL.2.1 56 3 _ rfl (by decide)) dX4_look_1 ?_
  refine go_iload_n 1 dX4_look_4 rfl rfl ?_
  refine go_aload_n 0 dX4_look_5 rfl rfl ?_
  refine go_getR 0 f_X4_22 rfl (hL.1 56 _ rfl) (hL.2.1 56 0 _ rfl (by decide)) dX4_look_6 ?_
  refine go_iload_n 1 dX4_look_9 rfl rfl ?_
  refine go_vI (M := MX8_heldBy) [vI v1] [vI v1, vR E 58] mv_X4_30 (hL.1 1 _ rfl) rfl (by decide) ⟨Nat.le_of_ble_eq_true rfl, Nat.le_of_ble_eq_true rfl⟩ ⟨Nat.le_refl _, Nat.le_refl _⟩ rfl rfl (Nat.le_of_ble_eq_true rfl) dX4_look_10 h (fun r2 D2 h => ?_)
  obtain ⟨s3, h⟩ := h
  refine go_iastore (hL.1 58 _ rfl) (b := 4) rfl (by decide) s3.1 s3.2 dX4_look_13 ?_
  refine go_aload_n 0 dX4_look_14 rfl rfl ?_
  refine go_getR 4 f_X4_18 rfl (hL.1 56 _ rfl) (hL.2.1 56 4 _ rfl (by decide)) dX4_look_15 ?_
  refine go_iload_n 1 dX4_look_18 rfl rfl ?_
  refine go_aload_n 0 dX4_look_19 rfl rfl ?_
  refine go_getR 1 f_X4_26 rfl (hL.1 56 _ rfl) (hL.2.1 56 1 _ rfl (by decide)) dX4_look_20 ?_
  refine go_iload_n 1 dX4_look_23 rfl rfl ?_
  refine go_aload_n 0 dX4_look_24 rfl rfl ?_
  refine go_getR 3 f_X4_15 rfl (hL.1 56 _ rfl) (hL.2.1 56 3 _ rfl (by decide)) dX4_look_25 ?_
  refine go_iload_n 1 dX4_look_28 rfl rfl ?_
  refine go_iaload (hL.1 58 _ rfl) (b := 4) rfl (by decide) s3.1 dX4_look_29 ?_
  refine go_eqI (y := r2) (by first | exact upd2_same _ _ _ _ | simp [upd2]) ?_
  refine go_vJ (M := MX5_worthOf) [vI v1, vI r2] [vI v1, vR E 59] mv_X4_36 (hL.1 42 _ rfl) rfl (by decide) ⟨Nat.le_of_ble_eq_true rfl, Nat.le_of_ble_eq_true rfl⟩ ⟨Nat.le_refl _, Nat.le_refl _⟩ rfl rfl (Nat.le_of_ble_eq_true rfl) dX4_look_30 h (fun r4 D4 h => ?_)
  obtain ⟨s5, h⟩ := h
  refine go_lastore (hL.1 59 _ rfl) (b := 4) rfl (by decide) s3.1 s5 dX4_look_33 ?_
  exact go_return (Nat.le_refl _) (Nat.le_refl _) rfl dX4_look_34 h
theorem s_X4_holds {l : Launch} {E : Ev} {Q : Int → Sh → Dm → Prop} {G : Sh} {D : Dm} (hL : Lay G) {v1 v2 : Int}  (h : ((0 ≤ v1 ∧ v1 < 4)) ∧ (((iA (iSr (D 58 v1) v2) 1) = 0 → Q 0 G D) ∧ ((iA (iSr (D 58 v1) v2) 1) ≠ 0 → Q 1 G D))) : Ct l E MX4_holds 0 0 0 [vR E 56, vI v1, vI v2] G D Q := by
  refine Ct.of (by decide) (Nat.le_of_ble_eq_true rfl) ?_
  show KX4_holds l E Q 0 [(0, vR E 56), (1, vI v1), (2, vI v2)] G D
  obtain ⟨s1, h⟩ := h
  refine go_aload_n 0 dX4_holds_0 rfl rfl ?_
  refine go_getR 3 f_X4_15 rfl (hL.1 56 _ rfl) (hL.2.1 56 3 _ rfl (by decide)) dX4_holds_1 ?_
  refine go_iload_n 1 dX4_holds_4 rfl rfl ?_
  refine go_iaload (hL.1 58 _ rfl) (b := 4) rfl (by decide) s1 dX4_holds_5 ?_
  refine go_iload_n 2 dX4_holds_6 rfl rfl ?_
  refine go_ishr dX4_holds_7 ?_
  refine go_iconst dX4_holds_8 ?_
  refine go_iand dX4_holds_9 ?_
  refine go_if_eq 17 dX4_holds_10 (by decide) (r32 _) (fun c2 => ?_) (fun c2 => ?_)
  · have h := h.1 c2
    refine go_iconst dX4_holds_17 ?_
    exact go_zreturn (Nat.le_refl _) (Nat.le_refl _) rfl (by decide) dX4_holds_18 h
  · have h := h.2 c2
    refine go_iconst dX4_holds_13 ?_
    refine go_goto 18 dX4_holds_14 (by decide) ?_
    exact go_zreturn (Nat.le_refl _) (Nat.le_refl _) rfl (by decide) dX4_holds_18 h
theorem p_X4_holds {l : Launch} {E : Ev} {G : Sh} {D : Dm} (hL : Lay G) {v1 v2 : Int}  (q0 : 0 ≤ v1 ∧ v1 < 4) : C0 l E MX4_holds 0 [vR E 56, vI v1, vI v2] G D (fun r D' => r = (if ((iA (iSr (D 58 v1) v2) 1) ≠ 0) then 1 else 0) ∧ D' = D) := by
  refine s_X4_holds hL ?_
  refine ⟨q0, ?_⟩
  refine ⟨fun hc => ?_, fun hc => ?_⟩
  · refine ⟨rfl, ?_, rfl⟩
    (split <;> first | rfl | (exfalso; simp_all; done) | omega | simp_all)
  · refine ⟨rfl, ?_, rfl⟩
    (split <;> first | rfl | (exfalso; simp_all; done) | omega | simp_all)
theorem s_X4_gains {l : Launch} {E : Ev} {Q : Int → Sh → Dm → Prop} {G : Sh} {D : Dm} (hL : Lay G) {v1 v2 v3 : Int}  (h : ((0 ≤ v1 ∧ v1 < 4)) ∧ C0 l E MX5_worthOf 1 [vR E 42, vI v1, vI (iX (iX (D 58 v1) (iSl 1 v2)) (iSl 1 v3))] G D (fun r2 D2 => ((-9223372036854775808 ≤ r2 ∧ r2 < 9223372036854775808)) ∧ ((r2 ≤ (D2 59 v1) → Q 0 G D2) ∧ ((D2 59 v1) < r2 → Q 1 G D2)))) : Ct l E MX4_gains 0 0 0 [vR E 56, vI v1, vI v2, vI v3] G D Q := by
  refine Ct.of (by decide) (Nat.le_of_ble_eq_true rfl) ?_
  show KX4_gains l E Q 0 [(0, vR E 56), (1, vI v1), (2, vI v2), (3, vI v3)] G D
  obtain ⟨s1, h⟩ := h
  refine go_aload_n 0 dX4_gains_0 rfl rfl ?_
  refine go_getR 3 f_X4_15 rfl (hL.1 56 _ rfl) (hL.2.1 56 3 _ rfl (by decide)) dX4_gains_1 ?_
  refine go_iload_n 1 dX4_gains_4 rfl rfl ?_
  refine go_iaload (hL.1 58 _ rfl) (b := 4) rfl (by decide) s1 dX4_gains_5 ?_
  refine go_iconst dX4_gains_6 ?_
  refine go_iload_n 2 dX4_gains_7 rfl rfl ?_
  refine go_ishl dX4_gains_8 ?_
  refine go_ixor dX4_gains_9 ?_
  refine go_iconst dX4_gains_10 ?_
  refine go_iload_n 3 dX4_gains_11 rfl rfl ?_
  refine go_ishl dX4_gains_12 ?_
  refine go_ixor dX4_gains_13 ?_
  refine go_istore [1, 2, 3, 4, 0] (L' := [(0, vR E 56), (1, vI v1), (2, vI v2), (3, vI v3), (4, vI (iX (iX (D 58 v1) (iSl 1 v2)) (iSl 1 v3)))]) dX4_gains_14 (by decide) rfl ?_
  refine go_aload_n 0 dX4_gains_16 rfl rfl ?_
  refine go_getR 1 f_X4_26 rfl (hL.1 56 _ rfl) (hL.2.1 56 1 _ rfl (by decide)) dX4_gains_17 ?_
  refine go_iload_n 1 dX4_gains_20 rfl rfl ?_
  refine go_iload 4 dX4_gains_21 rfl ?_
  refine go_vJ (M := MX5_worthOf) [vI v1, vI (iX (iX (D 58 v1) (iSl 1 v2)) (iSl 1 v3))] [] mv_X4_36 (hL.1 42 _ rfl) rfl (by decide) ⟨Nat.le_of_ble_eq_true rfl, Nat.le_of_ble_eq_true rfl⟩ ⟨Nat.le_refl _, Nat.le_refl _⟩ rfl rfl (Nat.le_of_ble_eq_true rfl) dX4_gains_23 h (fun r2 D2 h => ?_)
  obtain ⟨s3, h⟩ := h
  refine go_aload_n 0 dX4_gains_26 rfl rfl ?_
  refine go_getR 4 f_X4_18 rfl (hL.1 56 _ rfl) (hL.2.1 56 4 _ rfl (by decide)) dX4_gains_27 ?_
  refine go_iload_n 1 dX4_gains_30 rfl rfl ?_
  refine go_laload (hL.1 59 _ rfl) (b := 4) rfl (by decide) s1 dX4_gains_31 ?_
  refine go_rngJ (c := 59) (i := v1) (hL.1 59 _ rfl) rfl (fun (q4 : -9223372036854775808 ≤ (D2 59 v1) ∧ (D2 59 v1) < 9223372036854775808) => ?_)
  refine go_lcmp_le 40 dX4_gains_32 dX4_gains_33 (by decide) s3 q4 (fun c5 => ?_) (fun c5 => ?_)
  · have h := h.1 c5
    refine go_iconst dX4_gains_40 ?_
    exact go_zreturn (Nat.le_refl _) (Nat.le_refl _) rfl (by decide) dX4_gains_41 h
  · have h := h.2 c5
    refine go_iconst dX4_gains_36 ?_
    refine go_goto 41 dX4_gains_37 (by decide) ?_
    exact go_zreturn (Nat.le_refl _) (Nat.le_refl _) rfl (by decide) dX4_gains_41 h
theorem s_X4_countSwaps {l : Launch} {E : Ev} {Q : Int → Sh → Dm → Prop} {G : Sh} {D : Dm} (hL : Lay G) {v1 v2 v3 : Int}  (h : C0 l E MX4_look 2 [vR E 56, vI v1] G D (fun r2 D2 => C0 l E MX4_look 2 [vR E 56, vI v2] G D2 (fun r4 D4 => KX4_countSwaps l E Q 16 [(0, vR E 56), (1, vI v1), (2, vI v2), (3, vI v3), (4, vI 0), (5, vI 0)] G D4))) : Ct l E MX4_countSwaps 0 0 0 [vR E 56, vI v1, vI v2, vI v3] G D Q := by
  refine Ct.of (by decide) (Nat.le_of_ble_eq_true rfl) ?_
  show KX4_countSwaps l E Q 0 [(0, vR E 56), (1, vI v1), (2, vI v2), (3, vI v3)] G D
  refine go_aload_n 0 dX4_countSwaps_0 rfl rfl ?_
  refine go_iload_n 1 dX4_countSwaps_1 rfl rfl ?_
  refine go_vV (M := MX4_look) [vI v1] [] mv_X4_42 (hL.1 56 _ rfl) rfl (by decide) ⟨Nat.le_of_ble_eq_true rfl, Nat.le_of_ble_eq_true rfl⟩ ⟨Nat.le_refl _, Nat.le_refl _⟩ rfl rfl (Nat.le_of_ble_eq_true rfl) dX4_countSwaps_2 h (fun r2 D2 h => ?_)
  refine go_aload_n 0 dX4_countSwaps_5 rfl rfl ?_
  refine go_iload_n 2 dX4_countSwaps_6 rfl rfl ?_
  refine go_vV (M := MX4_look) [vI v2] [] mv_X4_42 (hL.1 56 _ rfl) rfl (by decide) ⟨Nat.le_of_ble_eq_true rfl, Nat.le_of_ble_eq_true rfl⟩ ⟨Nat.le_refl _, Nat.le_refl _⟩ rfl rfl (Nat.le_of_ble_eq_true rfl) dX4_countSwaps_7 h (fun r4 D4 h => ?_)
  refine go_iconst dX4_countSwaps_10 ?_
  refine go_istore [1, 2, 3, 4, 0] (L' := [(0, vR E 56), (1, vI v1), (2, vI v2), (3, vI v3), (4, vI 0)]) dX4_countSwaps_11 (by decide) rfl ?_
  refine go_iconst dX4_countSwaps_13 ?_
  refine go_istore [1, 2, 3, 4, 5, 0] (L' := [(0, vR E 56), (1, vI v1), (2, vI v2), (3, vI v3), (4, vI 0), (5, vI 0)]) dX4_countSwaps_14 (by decide) rfl ?_
  exact h
theorem s_X4_countSwaps_16 {l : Launch} {E : Ev} {Q : Int → Sh → Dm → Prop} {G : Sh} {D : Dm} (hL : Lay G) {v1 v2 v3 v4 v5 : Int}  (h : ((-2147483648 ≤ v5 ∧ v5 < 2147483648)) ∧ (((D 1 0) ≤ v5 → Q v4 G D) ∧ (v5 < (D 1 0) → KX4_countSwaps l E Q 31 [(0, vR E 56), (1, vI v1), (2, vI v2), (3, vI v3), (4, vI v4), (5, vI v5), (6, vI 0)] G D))) : KX4_countSwaps l E Q 16 [(0, vR E 56), (1, vI v1), (2, vI v2), (3, vI v3), (4, vI v4), (5, vI v5)] G D := by
  obtain ⟨s1, h⟩ := h
  refine go_iload 5 dX4_countSwaps_16 rfl ?_
  refine go_aload_n 0 dX4_countSwaps_18 rfl rfl ?_
  refine go_getR 0 f_X4_22 rfl (hL.1 56 _ rfl) (hL.2.1 56 0 _ rfl (by decide)) dX4_countSwaps_19 ?_
  refine go_getI 0 (i := 0) f_X4_46 rfl (hL.1 1 _ rfl) dX4_countSwaps_22 ?_
  refine go_rngI (c := 1) (i := 0) (hL.1 1 _ rfl) rfl (fun (q2 : -2147483648 ≤ (D 1 0) ∧ (D 1 0) < 2147483648) => ?_)
  refine go_icmp_ge 127 dX4_countSwaps_25 (by decide) s1 q2 (fun c3 => ?_) (fun c3 => ?_)
  · have h := h.1 c3
    refine go_iload 4 dX4_countSwaps_127 rfl ?_
    exact go_ireturn (Nat.le_refl _) (Nat.le_refl _) rfl dX4_countSwaps_129 h
  · have h := h.2 c3
    refine go_iconst dX4_countSwaps_28 ?_
    refine go_istore [1, 2, 3, 4, 5, 6, 0] (L' := [(0, vR E 56), (1, vI v1), (2, vI v2), (3, vI v3), (4, vI v4), (5, vI v5), (6, vI 0)]) dX4_countSwaps_29 (by decide) rfl ?_
    exact h
theorem s_X4_countSwaps_31 {l : Launch} {E : Ev} {Q : Int → Sh → Dm → Prop} {G : Sh} {D : Dm} (hL : Lay G) {v1 v2 v3 v4 v5 v6 : Int}  (h : ((-2147483648 ≤ v6 ∧ v6 < 2147483648)) ∧ (((D 1 0) ≤ v6 → KX4_countSwaps l E Q 16 [(0, vR E 56), (1, vI v1), (2, vI v2), (3, vI v3), (4, vI v4), (5, vI (v5 + 1))] G D) ∧ (v6 < (D 1 0) → ((0 ≤ v1 ∧ v1 < 4)) ∧ ((¬ ((iA (iSr (D 58 v1) v5) 1) ≠ 0) → KX4_countSwaps l E Q 31 [(0, vR E 56), (1, vI v1), (2, vI v2), (3, vI v3), (4, vI v4), (5, vI v5), (6, vI (v6 + 1))] G D) ∧ (((iA (iSr (D 58 v1) v5) 1) ≠ 0) → ((0 ≤ v2 ∧ v2 < 4)) ∧ ((¬ ((iA (iSr (D 58 v2) v6) 1) ≠ 0) → KX4_countSwaps l E Q 31 [(0, vR E 56), (1, vI v1), (2, vI v2), (3, vI v3), (4, vI v4), (5, vI v5), (6, vI (v6 + 1))] G D) ∧ (((iA (iSr (D 58 v2) v6) 1) ≠ 0) → C0 l E MX4_gains 0 [vR E 56, vI v1, vI v5, vI v6] G D (fun r14 D14 => ((-2147483648 ≤ r14 ∧ r14 < 2147483648)) ∧ ((r14 = 0 → KX4_countSwaps l E Q 31 [(0, vR E 56), (1, vI v1), (2, vI v2), (3, vI v3), (4, vI v4), (5, vI v5), (6, vI (v6 + 1))] G D14) ∧ (r14 ≠ 0 → C0 l E MX4_gains 0 [vR E 56, vI v2, vI v6, vI v5] G D14 (fun r19 D19 => ((-2147483648 ≤ r19 ∧ r19 < 2147483648)) ∧ ((r19 = 0 → KX4_countSwaps l E Q 31 [(0, vR E 56), (1, vI v1), (2, vI v2), (3, vI v3), (4, vI v4), (5, vI v5), (6, vI (v6 + 1))] G D19) ∧ (r19 ≠ 0 → ((-2147483648 ≤ v5 ∧ v5 < 2147483648) ∧ (-2147483648 ≤ (v4 + 1) ∧ (v4 + 1) < 2147483648) ∧ (-2147483648 ≤ v3 ∧ v3 < 2147483648)) ∧ (((v4 + 1) ≤ v3 → KX4_countSwaps l E Q 31 [(0, vR E 56), (1, vI v1), (2, vI v2), (3, vI v3), (4, vI (v4 + 1)), (5, vI v5), (6, vI (v6 + 1))] G (upd2 (upd2 D19 57 0 v5) 57 1 v6)) ∧ (v3 < (v4 + 1) → Q (v4 + 1) G (upd2 (upd2 D19 57 0 v5) 57 1 v6)))))))))))))))) : KX4_countSwaps l E Q 31 [(0, vR E 56), (1, vI v1), (2, vI v2), (3, vI v3), (4, vI v4), (5, vI v5), (6, vI v6)] G D := by
  obtain ⟨s1, h⟩ := h
  refine go_iload 6 dX4_countSwaps_31 rfl ?_
  refine go_aload_n 0 dX4_countSwaps_33 rfl rfl ?_
  refine go_getR 0 f_X4_22 rfl (hL.1 56 _ rfl) (hL.2.1 56 0 _ rfl (by decide)) dX4_countSwaps_34 ?_
  refine go_getI 0 (i := 0) f_X4_46 rfl (hL.1 1 _ rfl) dX4_countSwaps_37 ?_
  refine go_rngI (c := 1) (i := 0) (hL.1 1 _ rfl) rfl (fun (q2 : -2147483648 ≤ (D 1 0) ∧ (D 1 0) < 2147483648) => ?_)
  refine go_icmp_ge 121 dX4_countSwaps_40 (by decide) s1 q2 (fun c3 => ?_) (fun c3 => ?_)
  · have h := h.1 c3
    refine go_iinc 5 [1, 2, 3, 4, 5, 0, 6] (L' := [(0, vR E 56), (1, vI v1), (2, vI v2), (3, vI v3), (4, vI v4), (5, vI (v5 + 1)), (6, vI v6)]) dX4_countSwaps_121 (by decide) rfl rfl ?_
    refine go_goto 16 dX4_countSwaps_124 (by decide) ?_
    refine go_sub [0, 1, 2, 3, 4, 5] (L' := [(0, vR E 56), (1, vI v1), (2, vI v2), (3, vI v3), (4, vI v4), (5, vI (v5 + 1))]) rfl ?_
    exact h
  · have h := h.2 c3
    obtain ⟨s5, h⟩ := h
    refine go_aload_n 0 dX4_countSwaps_43 rfl rfl ?_
    refine go_iload_n 1 dX4_countSwaps_44 rfl rfl ?_
    refine go_iload 5 dX4_countSwaps_45 rfl ?_
    refine go_vIp (M := MX4_holds) [vI v1, vI v5] [] mv_X4_50 (hL.1 56 _ rfl) rfl (by decide) ⟨Nat.le_of_ble_eq_true rfl, Nat.le_of_ble_eq_true rfl⟩ ⟨Nat.le_refl _, Nat.le_refl _⟩ rfl rfl (Nat.le_of_ble_eq_true rfl) dX4_countSwaps_47 (p_X4_holds hL s5) ?_
    refine go_ifb_eq 115 dX4_countSwaps_50 (by decide) (fun c7 => ?_) (fun c7 => ?_)
    · have h := h.1 c7
      refine go_iinc 6 [1, 2, 3, 4, 5, 6, 0] (L' := [(0, vR E 56), (1, vI v1), (2, vI v2), (3, vI v3), (4, vI v4), (5, vI v5), (6, vI (v6 + 1))]) dX4_countSwaps_115 (by decide) rfl rfl ?_
      refine go_goto 31 dX4_countSwaps_118 (by decide) ?_
      exact h
    · have h := h.2 c7
      obtain ⟨s9, h⟩ := h
      refine go_aload_n 0 dX4_countSwaps_53 rfl rfl ?_
      refine go_iload_n 2 dX4_countSwaps_54 rfl rfl ?_
      refine go_iload 6 dX4_countSwaps_55 rfl ?_
      refine go_vIp (M := MX4_holds) [vI v2, vI v6] [] mv_X4_50 (hL.1 56 _ rfl) rfl (by decide) ⟨Nat.le_of_ble_eq_true rfl, Nat.le_of_ble_eq_true rfl⟩ ⟨Nat.le_refl _, Nat.le_refl _⟩ rfl rfl (Nat.le_of_ble_eq_true rfl) dX4_countSwaps_57 (p_X4_holds hL s9) ?_
      refine go_ifb_eq 115 dX4_countSwaps_60 (by decide) (fun c11 => ?_) (fun c11 => ?_)
      · have h := h.1 c11
        refine go_iinc 6 [1, 2, 3, 4, 5, 6, 0] (L' := [(0, vR E 56), (1, vI v1), (2, vI v2), (3, vI v3), (4, vI v4), (5, vI v5), (6, vI (v6 + 1))]) dX4_countSwaps_115 (by decide) rfl rfl ?_
        refine go_goto 31 dX4_countSwaps_118 (by decide) ?_
        exact h
      · have h := h.2 c11
        refine go_aload_n 0 dX4_countSwaps_63 rfl rfl ?_
        refine go_iload_n 1 dX4_countSwaps_64 rfl rfl ?_
        refine go_iload 5 dX4_countSwaps_65 rfl ?_
        refine go_iload 6 dX4_countSwaps_67 rfl ?_
        refine go_vI (M := MX4_gains) [vI v1, vI v5, vI v6] [] mv_X4_54 (hL.1 56 _ rfl) rfl (by decide) ⟨Nat.le_of_ble_eq_true rfl, Nat.le_of_ble_eq_true rfl⟩ ⟨Nat.le_refl _, Nat.le_refl _⟩ rfl rfl (Nat.le_of_ble_eq_true rfl) dX4_countSwaps_69 h (fun r14 D14 h => ?_)
        obtain ⟨s15, h⟩ := h
        refine go_if_eq 115 dX4_countSwaps_72 (by decide) s15 (fun c16 => ?_) (fun c16 => ?_)
        · have h := h.1 c16
          refine go_iinc 6 [1, 2, 3, 4, 5, 6, 0] (L' := [(0, vR E 56), (1, vI v1), (2, vI v2), (3, vI v3), (4, vI v4), (5, vI v5), (6, vI (v6 + 1))]) dX4_countSwaps_115 (by decide) rfl rfl ?_
          refine go_goto 31 dX4_countSwaps_118 (by decide) ?_
          exact h
        · have h := h.2 c16
          refine go_aload_n 0 dX4_countSwaps_75 rfl rfl ?_
          refine go_iload_n 2 dX4_countSwaps_76 rfl rfl ?_
          refine go_iload 6 dX4_countSwaps_77 rfl ?_
          refine go_iload 5 dX4_countSwaps_79 rfl ?_
          refine go_vI (M := MX4_gains) [vI v2, vI v6, vI v5] [] mv_X4_54 (hL.1 56 _ rfl) rfl (by decide) ⟨Nat.le_of_ble_eq_true rfl, Nat.le_of_ble_eq_true rfl⟩ ⟨Nat.le_refl _, Nat.le_refl _⟩ rfl rfl (Nat.le_of_ble_eq_true rfl) dX4_countSwaps_81 h (fun r19 D19 h => ?_)
          obtain ⟨s20, h⟩ := h
          refine go_if_eq 115 dX4_countSwaps_84 (by decide) s20 (fun c21 => ?_) (fun c21 => ?_)
          · have h := h.1 c21
            refine go_iinc 6 [1, 2, 3, 4, 5, 6, 0] (L' := [(0, vR E 56), (1, vI v1), (2, vI v2), (3, vI v3), (4, vI v4), (5, vI v5), (6, vI (v6 + 1))]) dX4_countSwaps_115 (by decide) rfl rfl ?_
            refine go_goto 31 dX4_countSwaps_118 (by decide) ?_
            exact h
          · have h := h.2 c21
            obtain ⟨s23, h⟩ := h
            refine go_aload_n 0 dX4_countSwaps_87 rfl rfl ?_
            refine go_getR 2 f_X4_9 rfl (hL.1 56 _ rfl) (hL.2.1 56 2 _ rfl (by decide)) dX4_countSwaps_88 ?_
            refine go_iconst dX4_countSwaps_91 ?_
            refine go_iload 5 dX4_countSwaps_92 rfl ?_
            refine go_iastore (hL.1 57 _ rfl) (b := 3) rfl (by decide) (by decide) s23.1 dX4_countSwaps_94 ?_
            refine go_aload_n 0 dX4_countSwaps_95 rfl rfl ?_
            refine go_getR 2 f_X4_9 rfl (hL.1 56 _ rfl) (hL.2.1 56 2 _ rfl (by decide)) dX4_countSwaps_96 ?_
            refine go_iconst dX4_countSwaps_99 ?_
            refine go_iload 6 dX4_countSwaps_100 rfl ?_
            refine go_iastore (hL.1 57 _ rfl) (b := 3) rfl (by decide) (by decide) s1 dX4_countSwaps_102 ?_
            refine go_iinc 4 [1, 2, 3, 4, 0, 5, 6] (L' := [(0, vR E 56), (1, vI v1), (2, vI v2), (3, vI v3), (4, vI (v4 + 1)), (5, vI v5), (6, vI v6)]) dX4_countSwaps_103 (by decide) rfl rfl ?_
            refine go_iload 4 dX4_countSwaps_106 rfl ?_
            refine go_iload_n 3 dX4_countSwaps_108 rfl rfl ?_
            refine go_icmp_le 115 dX4_countSwaps_109 (by decide) s23.2.1 s23.2.2 (fun c24 => ?_) (fun c24 => ?_)
            · have h := h.1 c24
              refine go_iinc 6 [1, 2, 3, 4, 5, 6, 0] (L' := [(0, vR E 56), (1, vI v1), (2, vI v2), (3, vI v3), (4, vI (v4 + 1)), (5, vI v5), (6, vI (v6 + 1))]) dX4_countSwaps_115 (by decide) rfl rfl ?_
              refine go_goto 31 dX4_countSwaps_118 (by decide) ?_
              exact h
            · have h := h.2 c24
              refine go_iload 4 dX4_countSwaps_112 rfl ?_
              exact go_ireturn (Nat.le_refl _) (Nat.le_refl _) rfl dX4_countSwaps_114 h
theorem s_X4_thirdOfRing {l : Launch} {E : Ev} {Q : Int → Sh → Dm → Prop} {G : Sh} {D : Dm} (hL : Lay G) {v1 v2 v3 v4 : Int}  (h : KX4_thirdOfRing l E Q 3 [(0, vR E 56), (1, vI v1), (2, vI v2), (3, vI v3), (4, vI v4), (5, vI 0)] G D) : Ct l E MX4_thirdOfRing 0 0 0 [vR E 56, vI v1, vI v2, vI v3, vI v4] G D Q := by
  refine Ct.of (by decide) (Nat.le_of_ble_eq_true rfl) ?_
  show KX4_thirdOfRing l E Q 0 [(0, vR E 56), (1, vI v1), (2, vI v2), (3, vI v3), (4, vI v4)] G D
  refine go_iconst dX4_thirdOfRing_0 ?_
  refine go_istore [1, 2, 3, 4, 5, 0] (L' := [(0, vR E 56), (1, vI v1), (2, vI v2), (3, vI v3), (4, vI v4), (5, vI 0)]) dX4_thirdOfRing_1 (by decide) rfl ?_
  exact h
theorem s_X4_thirdOfRing_3 {l : Launch} {E : Ev} {Q : Int → Sh → Dm → Prop} {G : Sh} {D : Dm} (hL : Lay G) {v1 v2 v3 v4 v5 : Int}  (h : ((-2147483648 ≤ v5 ∧ v5 < 2147483648)) ∧ (((D 1 0) ≤ v5 → Q (-1) G D) ∧ (v5 < (D 1 0) → ((0 ≤ v2 ∧ v2 < 4)) ∧ ((¬ ((iA (iSr (D 58 v2) v5) 1) ≠ 0) → KX4_thirdOfRing l E Q 3 [(0, vR E 56), (1, vI v1), (2, vI v2), (3, vI v3), (4, vI v4), (5, vI (v5 + 1))] G D) ∧ (((iA (iSr (D 58 v2) v5) 1) ≠ 0) → C0 l E MX4_gains 0 [vR E 56, vI v2, vI v5, vI v4] G D (fun r10 D10 => ((-2147483648 ≤ r10 ∧ r10 < 2147483648)) ∧ ((r10 = 0 → KX4_thirdOfRing l E Q 3 [(0, vR E 56), (1, vI v1), (2, vI v2), (3, vI v3), (4, vI v4), (5, vI (v5 + 1))] G D10) ∧ (r10 ≠ 0 → C0 l E MX4_gains 0 [vR E 56, vI v1, vI v3, vI v5] G D10 (fun r15 D15 => ((-2147483648 ≤ r15 ∧ r15 < 2147483648)) ∧ ((r15 = 0 → KX4_thirdOfRing l E Q 3 [(0, vR E 56), (1, vI v1), (2, vI v2), (3, vI v3), (4, vI v4), (5, vI (v5 + 1))] G D15) ∧ (r15 ≠ 0 → Q v5 G D15))))))))))) : KX4_thirdOfRing l E Q 3 [(0, vR E 56), (1, vI v1), (2, vI v2), (3, vI v3), (4, vI v4), (5, vI v5)] G D := by
  obtain ⟨s1, h⟩ := h
  refine go_iload 5 dX4_thirdOfRing_3 rfl ?_
  refine go_aload_n 0 dX4_thirdOfRing_5 rfl rfl ?_
  refine go_getR 0 f_X4_22 rfl (hL.1 56 _ rfl) (hL.2.1 56 0 _ rfl (by decide)) dX4_thirdOfRing_6 ?_
  refine go_getI 0 (i := 0) f_X4_46 rfl (hL.1 1 _ rfl) dX4_thirdOfRing_9 ?_
  refine go_rngI (c := 1) (i := 0) (hL.1 1 _ rfl) rfl (fun (q2 : -2147483648 ≤ (D 1 0) ∧ (D 1 0) < 2147483648) => ?_)
  refine go_icmp_ge 57 dX4_thirdOfRing_12 (by decide) s1 q2 (fun c3 => ?_) (fun c3 => ?_)
  · have h := h.1 c3
    refine go_iconst dX4_thirdOfRing_57 ?_
    exact go_ireturn (Nat.le_refl _) (Nat.le_refl _) rfl dX4_thirdOfRing_58 h
  · have h := h.2 c3
    obtain ⟨s5, h⟩ := h
    refine go_aload_n 0 dX4_thirdOfRing_15 rfl rfl ?_
    refine go_iload_n 2 dX4_thirdOfRing_16 rfl rfl ?_
    refine go_iload 5 dX4_thirdOfRing_17 rfl ?_
    refine go_vIp (M := MX4_holds) [vI v2, vI v5] [] mv_X4_50 (hL.1 56 _ rfl) rfl (by decide) ⟨Nat.le_of_ble_eq_true rfl, Nat.le_of_ble_eq_true rfl⟩ ⟨Nat.le_refl _, Nat.le_refl _⟩ rfl rfl (Nat.le_of_ble_eq_true rfl) dX4_thirdOfRing_19 (p_X4_holds hL s5) ?_
    refine go_ifb_eq 51 dX4_thirdOfRing_22 (by decide) (fun c7 => ?_) (fun c7 => ?_)
    · have h := h.1 c7
      refine go_iinc 5 [1, 2, 3, 4, 5, 0] (L' := [(0, vR E 56), (1, vI v1), (2, vI v2), (3, vI v3), (4, vI v4), (5, vI (v5 + 1))]) dX4_thirdOfRing_51 (by decide) rfl rfl ?_
      refine go_goto 3 dX4_thirdOfRing_54 (by decide) ?_
      exact h
    · have h := h.2 c7
      refine go_aload_n 0 dX4_thirdOfRing_25 rfl rfl ?_
      refine go_iload_n 2 dX4_thirdOfRing_26 rfl rfl ?_
      refine go_iload 5 dX4_thirdOfRing_27 rfl ?_
      refine go_iload 4 dX4_thirdOfRing_29 rfl ?_
      refine go_vI (M := MX4_gains) [vI v2, vI v5, vI v4] [] mv_X4_54 (hL.1 56 _ rfl) rfl (by decide) ⟨Nat.le_of_ble_eq_true rfl, Nat.le_of_ble_eq_true rfl⟩ ⟨Nat.le_refl _, Nat.le_refl _⟩ rfl rfl (Nat.le_of_ble_eq_true rfl) dX4_thirdOfRing_31 h (fun r10 D10 h => ?_)
      obtain ⟨s11, h⟩ := h
      refine go_if_eq 51 dX4_thirdOfRing_34 (by decide) s11 (fun c12 => ?_) (fun c12 => ?_)
      · have h := h.1 c12
        refine go_iinc 5 [1, 2, 3, 4, 5, 0] (L' := [(0, vR E 56), (1, vI v1), (2, vI v2), (3, vI v3), (4, vI v4), (5, vI (v5 + 1))]) dX4_thirdOfRing_51 (by decide) rfl rfl ?_
        refine go_goto 3 dX4_thirdOfRing_54 (by decide) ?_
        exact h
      · have h := h.2 c12
        refine go_aload_n 0 dX4_thirdOfRing_37 rfl rfl ?_
        refine go_iload_n 1 dX4_thirdOfRing_38 rfl rfl ?_
        refine go_iload_n 3 dX4_thirdOfRing_39 rfl rfl ?_
        refine go_iload 5 dX4_thirdOfRing_40 rfl ?_
        refine go_vI (M := MX4_gains) [vI v1, vI v3, vI v5] [] mv_X4_54 (hL.1 56 _ rfl) rfl (by decide) ⟨Nat.le_of_ble_eq_true rfl, Nat.le_of_ble_eq_true rfl⟩ ⟨Nat.le_refl _, Nat.le_refl _⟩ rfl rfl (Nat.le_of_ble_eq_true rfl) dX4_thirdOfRing_42 h (fun r15 D15 h => ?_)
        obtain ⟨s16, h⟩ := h
        refine go_if_eq 51 dX4_thirdOfRing_45 (by decide) s16 (fun c17 => ?_) (fun c17 => ?_)
        · have h := h.1 c17
          refine go_iinc 5 [1, 2, 3, 4, 5, 0] (L' := [(0, vR E 56), (1, vI v1), (2, vI v2), (3, vI v3), (4, vI v4), (5, vI (v5 + 1))]) dX4_thirdOfRing_51 (by decide) rfl rfl ?_
          refine go_goto 3 dX4_thirdOfRing_54 (by decide) ?_
          exact h
        · have h := h.2 c17
          refine go_iload 5 dX4_thirdOfRing_48 rfl ?_
          exact go_ireturn (Nat.le_refl _) (Nat.le_refl _) rfl dX4_thirdOfRing_50 h
theorem s_X4_findRing {l : Launch} {E : Ev} {Q : Int → Sh → Dm → Prop} {G : Sh} {D : Dm} (hL : Lay G) {v1 v2 v3 : Int}  (h : C0 l E MX4_look 2 [vR E 56, vI v1] G D (fun r2 D2 => C0 l E MX4_look 2 [vR E 56, vI v2] G D2 (fun r4 D4 => C0 l E MX4_look 2 [vR E 56, vI v3] G D4 (fun r6 D6 => KX4_findRing l E Q 18 [(0, vR E 56), (1, vI v1), (2, vI v2), (3, vI v3), (4, vI 0)] G D6)))) : Ct l E MX4_findRing 0 0 0 [vR E 56, vI v1, vI v2, vI v3] G D Q := by
  refine Ct.of (by decide) (Nat.le_of_ble_eq_true rfl) ?_
  show KX4_findRing l E Q 0 [(0, vR E 56), (1, vI v1), (2, vI v2), (3, vI v3)] G D
  refine go_aload_n 0 dX4_findRing_0 rfl rfl ?_
  refine go_iload_n 1 dX4_findRing_1 rfl rfl ?_
  refine go_vV (M := MX4_look) [vI v1] [] mv_X4_42 (hL.1 56 _ rfl) rfl (by decide) ⟨Nat.le_of_ble_eq_true rfl, Nat.le_of_ble_eq_true rfl⟩ ⟨Nat.le_refl _, Nat.le_refl _⟩ rfl rfl (Nat.le_of_ble_eq_true rfl) dX4_findRing_2 h (fun r2 D2 h => ?_)
  refine go_aload_n 0 dX4_findRing_5 rfl rfl ?_
  refine go_iload_n 2 dX4_findRing_6 rfl rfl ?_
  refine go_vV (M := MX4_look) [vI v2] [] mv_X4_42 (hL.1 56 _ rfl) rfl (by decide) ⟨Nat.le_of_ble_eq_true rfl, Nat.le_of_ble_eq_true rfl⟩ ⟨Nat.le_refl _, Nat.le_refl _⟩ rfl rfl (Nat.le_of_ble_eq_true rfl) dX4_findRing_7 h (fun r4 D4 h => ?_)
  refine go_aload_n 0 dX4_findRing_10 rfl rfl ?_
  refine go_iload_n 3 dX4_findRing_11 rfl rfl ?_
  refine go_vV (M := MX4_look) [vI v3] [] mv_X4_42 (hL.1 56 _ rfl) rfl (by decide) ⟨Nat.le_of_ble_eq_true rfl, Nat.le_of_ble_eq_true rfl⟩ ⟨Nat.le_refl _, Nat.le_refl _⟩ rfl rfl (Nat.le_of_ble_eq_true rfl) dX4_findRing_12 h (fun r6 D6 h => ?_)
  refine go_iconst dX4_findRing_15 ?_
  refine go_istore [1, 2, 3, 4, 0] (L' := [(0, vR E 56), (1, vI v1), (2, vI v2), (3, vI v3), (4, vI 0)]) dX4_findRing_16 (by decide) rfl ?_
  exact h
theorem s_X4_findRing_18 {l : Launch} {E : Ev} {Q : Int → Sh → Dm → Prop} {G : Sh} {D : Dm} (hL : Lay G) {v1 v2 v3 v4 : Int}  (h : ((-2147483648 ≤ v4 ∧ v4 < 2147483648)) ∧ (((D 1 0) ≤ v4 → Q 0 G D) ∧ (v4 < (D 1 0) → KX4_findRing l E Q 33 [(0, vR E 56), (1, vI v1), (2, vI v2), (3, vI v3), (4, vI v4), (5, vI 0)] G D))) : KX4_findRing l E Q 18 [(0, vR E 56), (1, vI v1), (2, vI v2), (3, vI v3), (4, vI v4)] G D := by
  obtain ⟨s1, h⟩ := h
  refine go_iload 4 dX4_findRing_18 rfl ?_
  refine go_aload_n 0 dX4_findRing_20 rfl rfl ?_
  refine go_getR 0 f_X4_22 rfl (hL.1 56 _ rfl) (hL.2.1 56 0 _ rfl (by decide)) dX4_findRing_21 ?_
  refine go_getI 0 (i := 0) f_X4_46 rfl (hL.1 1 _ rfl) dX4_findRing_24 ?_
  refine go_rngI (c := 1) (i := 0) (hL.1 1 _ rfl) rfl (fun (q2 : -2147483648 ≤ (D 1 0) ∧ (D 1 0) < 2147483648) => ?_)
  refine go_icmp_ge 133 dX4_findRing_27 (by decide) s1 q2 (fun c3 => ?_) (fun c3 => ?_)
  · have h := h.1 c3
    refine go_iconst dX4_findRing_133 ?_
    exact go_zreturn (Nat.le_refl _) (Nat.le_refl _) rfl (by decide) dX4_findRing_134 h
  · have h := h.2 c3
    refine go_iconst dX4_findRing_30 ?_
    refine go_istore [1, 2, 3, 4, 5, 0] (L' := [(0, vR E 56), (1, vI v1), (2, vI v2), (3, vI v3), (4, vI v4), (5, vI 0)]) dX4_findRing_31 (by decide) rfl ?_
    exact h
theorem s_X4_findRing_33 {l : Launch} {E : Ev} {Q : Int → Sh → Dm → Prop} {G : Sh} {D : Dm} (hL : Lay G) {v1 v2 v3 v4 v5 : Int}  (h : ((-2147483648 ≤ v5 ∧ v5 < 2147483648)) ∧ (((D 1 0) ≤ v5 → KX4_findRing l E Q 18 [(0, vR E 56), (1, vI v1), (2, vI v2), (3, vI v3), (4, vI (v4 + 1))] G D) ∧ (v5 < (D 1 0) → ((0 ≤ v1 ∧ v1 < 4)) ∧ ((¬ ((iA (iSr (D 58 v1) v4) 1) ≠ 0) → KX4_findRing l E Q 33 [(0, vR E 56), (1, vI v1), (2, vI v2), (3, vI v3), (4, vI v4), (5, vI (v5 + 1))] G D) ∧ (((iA (iSr (D 58 v1) v4) 1) ≠ 0) → ((0 ≤ v2 ∧ v2 < 4)) ∧ ((¬ ((iA (iSr (D 58 v2) v5) 1) ≠ 0) → KX4_findRing l E Q 33 [(0, vR E 56), (1, vI v1), (2, vI v2), (3, vI v3), (4, vI v4), (5, vI (v5 + 1))] G D) ∧ (((iA (iSr (D 58 v2) v5) 1) ≠ 0) → C0 l E MX4_gains 0 [vR E 56, vI v2, vI v5, vI v4] G D (fun r14 D14 => ((-2147483648 ≤ r14 ∧ r14 < 2147483648)) ∧ ((r14 = 0 → KX4_findRing l E Q 33 [(0, vR E 56), (1, vI v1), (2, vI v2), (3, vI v3), (4, vI v4), (5, vI (v5 + 1))] G D14) ∧ (r14 ≠ 0 → C0 l E MX4_thirdOfRing 0 [vR E 56, vI v1, vI v3, vI v4, vI v5] G D14 (fun r19 D19 => ((-2147483648 ≤ r19 ∧ r19 < 2147483648)) ∧ ((r19 = (-1) → KX4_findRing l E Q 33 [(0, vR E 56), (1, vI v1), (2, vI v2), (3, vI v3), (4, vI v4), (5, vI (v5 + 1))] G D19) ∧ (r19 ≠ (-1) → ((-2147483648 ≤ v4 ∧ v4 < 2147483648)) ∧ Q 1 G (upd2 (upd2 (upd2 D19 57 0 v4) 57 1 v5) 57 2 r19)))))))))))))) : KX4_findRing l E Q 33 [(0, vR E 56), (1, vI v1), (2, vI v2), (3, vI v3), (4, vI v4), (5, vI v5)] G D := by
  obtain ⟨s1, h⟩ := h
  refine go_iload 5 dX4_findRing_33 rfl ?_
  refine go_aload_n 0 dX4_findRing_35 rfl rfl ?_
  refine go_getR 0 f_X4_22 rfl (hL.1 56 _ rfl) (hL.2.1 56 0 _ rfl (by decide)) dX4_findRing_36 ?_
  refine go_getI 0 (i := 0) f_X4_46 rfl (hL.1 1 _ rfl) dX4_findRing_39 ?_
  refine go_rngI (c := 1) (i := 0) (hL.1 1 _ rfl) rfl (fun (q2 : -2147483648 ≤ (D 1 0) ∧ (D 1 0) < 2147483648) => ?_)
  refine go_icmp_ge 127 dX4_findRing_42 (by decide) s1 q2 (fun c3 => ?_) (fun c3 => ?_)
  · have h := h.1 c3
    refine go_iinc 4 [1, 2, 3, 4, 0, 5] (L' := [(0, vR E 56), (1, vI v1), (2, vI v2), (3, vI v3), (4, vI (v4 + 1)), (5, vI v5)]) dX4_findRing_127 (by decide) rfl rfl ?_
    refine go_goto 18 dX4_findRing_130 (by decide) ?_
    refine go_sub [0, 1, 2, 3, 4] (L' := [(0, vR E 56), (1, vI v1), (2, vI v2), (3, vI v3), (4, vI (v4 + 1))]) rfl ?_
    exact h
  · have h := h.2 c3
    obtain ⟨s5, h⟩ := h
    refine go_aload_n 0 dX4_findRing_45 rfl rfl ?_
    refine go_iload_n 1 dX4_findRing_46 rfl rfl ?_
    refine go_iload 4 dX4_findRing_47 rfl ?_
    refine go_vIp (M := MX4_holds) [vI v1, vI v4] [] mv_X4_50 (hL.1 56 _ rfl) rfl (by decide) ⟨Nat.le_of_ble_eq_true rfl, Nat.le_of_ble_eq_true rfl⟩ ⟨Nat.le_refl _, Nat.le_refl _⟩ rfl rfl (Nat.le_of_ble_eq_true rfl) dX4_findRing_49 (p_X4_holds hL s5) ?_
    refine go_ifb_eq 121 dX4_findRing_52 (by decide) (fun c7 => ?_) (fun c7 => ?_)
    · have h := h.1 c7
      refine go_iinc 5 [1, 2, 3, 4, 5, 0] (L' := [(0, vR E 56), (1, vI v1), (2, vI v2), (3, vI v3), (4, vI v4), (5, vI (v5 + 1))]) dX4_findRing_121 (by decide) rfl rfl ?_
      refine go_goto 33 dX4_findRing_124 (by decide) ?_
      exact h
    · have h := h.2 c7
      obtain ⟨s9, h⟩ := h
      refine go_aload_n 0 dX4_findRing_55 rfl rfl ?_
      refine go_iload_n 2 dX4_findRing_56 rfl rfl ?_
      refine go_iload 5 dX4_findRing_57 rfl ?_
      refine go_vIp (M := MX4_holds) [vI v2, vI v5] [] mv_X4_50 (hL.1 56 _ rfl) rfl (by decide) ⟨Nat.le_of_ble_eq_true rfl, Nat.le_of_ble_eq_true rfl⟩ ⟨Nat.le_refl _, Nat.le_refl _⟩ rfl rfl (Nat.le_of_ble_eq_true rfl) dX4_findRing_59 (p_X4_holds hL s9) ?_
      refine go_ifb_eq 121 dX4_findRing_62 (by decide) (fun c11 => ?_) (fun c11 => ?_)
      · have h := h.1 c11
        refine go_iinc 5 [1, 2, 3, 4, 5, 0] (L' := [(0, vR E 56), (1, vI v1), (2, vI v2), (3, vI v3), (4, vI v4), (5, vI (v5 + 1))]) dX4_findRing_121 (by decide) rfl rfl ?_
        refine go_goto 33 dX4_findRing_124 (by decide) ?_
        exact h
      · have h := h.2 c11
        refine go_aload_n 0 dX4_findRing_65 rfl rfl ?_
        refine go_iload_n 2 dX4_findRing_66 rfl rfl ?_
        refine go_iload 5 dX4_findRing_67 rfl ?_
        refine go_iload 4 dX4_findRing_69 rfl ?_
        refine go_vI (M := MX4_gains) [vI v2, vI v5, vI v4] [] mv_X4_54 (hL.1 56 _ rfl) rfl (by decide) ⟨Nat.le_of_ble_eq_true rfl, Nat.le_of_ble_eq_true rfl⟩ ⟨Nat.le_refl _, Nat.le_refl _⟩ rfl rfl (Nat.le_of_ble_eq_true rfl) dX4_findRing_71 h (fun r14 D14 h => ?_)
        obtain ⟨s15, h⟩ := h
        refine go_if_eq 121 dX4_findRing_74 (by decide) s15 (fun c16 => ?_) (fun c16 => ?_)
        · have h := h.1 c16
          refine go_iinc 5 [1, 2, 3, 4, 5, 0] (L' := [(0, vR E 56), (1, vI v1), (2, vI v2), (3, vI v3), (4, vI v4), (5, vI (v5 + 1))]) dX4_findRing_121 (by decide) rfl rfl ?_
          refine go_goto 33 dX4_findRing_124 (by decide) ?_
          exact h
        · have h := h.2 c16
          refine go_aload_n 0 dX4_findRing_77 rfl rfl ?_
          refine go_iload_n 1 dX4_findRing_78 rfl rfl ?_
          refine go_iload_n 3 dX4_findRing_79 rfl rfl ?_
          refine go_iload 4 dX4_findRing_80 rfl ?_
          refine go_iload 5 dX4_findRing_82 rfl ?_
          refine go_vI (M := MX4_thirdOfRing) [vI v1, vI v3, vI v4, vI v5] [] mv_X4_58 (hL.1 56 _ rfl) rfl (by decide) ⟨Nat.le_of_ble_eq_true rfl, Nat.le_of_ble_eq_true rfl⟩ ⟨Nat.le_refl _, Nat.le_refl _⟩ rfl rfl (Nat.le_of_ble_eq_true rfl) dX4_findRing_84 h (fun r19 D19 h => ?_)
          obtain ⟨s20, h⟩ := h
          refine go_istore [1, 2, 3, 4, 5, 6, 0] (L' := [(0, vR E 56), (1, vI v1), (2, vI v2), (3, vI v3), (4, vI v4), (5, vI v5), (6, vI r19)]) dX4_findRing_87 (by decide) rfl ?_
          refine go_iload 6 dX4_findRing_89 rfl ?_
          refine go_iconst dX4_findRing_91 ?_
          refine go_icmp_eq 121 dX4_findRing_92 (by decide) s20 (by decide) (fun c21 => ?_) (fun c21 => ?_)
          · have h := h.1 c21
            refine go_iinc 5 [1, 2, 3, 4, 5, 0, 6] (L' := [(0, vR E 56), (1, vI v1), (2, vI v2), (3, vI v3), (4, vI v4), (5, vI (v5 + 1)), (6, vI r19)]) dX4_findRing_121 (by decide) rfl rfl ?_
            refine go_goto 33 dX4_findRing_124 (by decide) ?_
            refine go_sub [0, 1, 2, 3, 4, 5] (L' := [(0, vR E 56), (1, vI v1), (2, vI v2), (3, vI v3), (4, vI v4), (5, vI (v5 + 1))]) rfl ?_
            exact h
          · have h := h.2 c21
            obtain ⟨s23, h⟩ := h
            refine go_aload_n 0 dX4_findRing_95 rfl rfl ?_
            refine go_getR 2 f_X4_9 rfl (hL.1 56 _ rfl) (hL.2.1 56 2 _ rfl (by decide)) dX4_findRing_96 ?_
            refine go_iconst dX4_findRing_99 ?_
            refine go_iload 4 dX4_findRing_100 rfl ?_
            refine go_iastore (hL.1 57 _ rfl) (b := 3) rfl (by decide) (by decide) s23 dX4_findRing_102 ?_
            refine go_aload_n 0 dX4_findRing_103 rfl rfl ?_
            refine go_getR 2 f_X4_9 rfl (hL.1 56 _ rfl) (hL.2.1 56 2 _ rfl (by decide)) dX4_findRing_104 ?_
            refine go_iconst dX4_findRing_107 ?_
            refine go_iload 5 dX4_findRing_108 rfl ?_
            refine go_iastore (hL.1 57 _ rfl) (b := 3) rfl (by decide) (by decide) s1 dX4_findRing_110 ?_
            refine go_aload_n 0 dX4_findRing_111 rfl rfl ?_
            refine go_getR 2 f_X4_9 rfl (hL.1 56 _ rfl) (hL.2.1 56 2 _ rfl (by decide)) dX4_findRing_112 ?_
            refine go_iconst dX4_findRing_115 ?_
            refine go_iload 6 dX4_findRing_116 rfl ?_
            refine go_iastore (hL.1 57 _ rfl) (b := 3) rfl (by decide) (by decide) s20 dX4_findRing_118 ?_
            refine go_iconst dX4_findRing_119 ?_
            exact go_zreturn (Nat.le_refl _) (Nat.le_refl _) rfl (by decide) dX4_findRing_120 h
theorem s_X4_swapFirst {l : Launch} {E : Ev} {Q : Int → Sh → Dm → Prop} {G : Sh} {D : Dm} (hL : Lay G)  (h : KX4_swapFirst l E Q 2 [(0, vR E 56), (1, vI 0)] G D) : Ct l E MX4_swapFirst 0 0 0 [vR E 56] G D Q := by
  refine Ct.of (by decide) (Nat.le_of_ble_eq_true rfl) ?_
  show KX4_swapFirst l E Q 0 [(0, vR E 56)] G D
  refine go_iconst dX4_swapFirst_0 ?_
  refine go_istore_n [1, 0] (L' := [(0, vR E 56), (1, vI 0)]) dX4_swapFirst_1 rfl (by decide) rfl ?_
  exact h
theorem s_X4_swapFirst_2 {l : Launch} {E : Ev} {Q : Int → Sh → Dm → Prop} {G : Sh} {D : Dm} (hL : Lay G) {v1 : Int}  (h : ((-2147483648 ≤ v1 ∧ v1 < 2147483648)) ∧ (((D 1 2) ≤ v1 → Q 0 G D) ∧ (v1 < (D 1 2) → KX4_swapFirst l E Q 17 [(0, vR E 56), (1, vI v1), (2, vI (v1 + 1))] G D))) : KX4_swapFirst l E Q 2 [(0, vR E 56), (1, vI v1)] G D := by
  obtain ⟨s1, h⟩ := h
  refine go_iload_n 1 dX4_swapFirst_2 rfl rfl ?_
  refine go_aload_n 0 dX4_swapFirst_3 rfl rfl ?_
  refine go_getR 0 f_X4_22 rfl (hL.1 56 _ rfl) (hL.2.1 56 0 _ rfl (by decide)) dX4_swapFirst_4 ?_
  refine go_getI 2 (i := 2) f_X4_62 rfl (hL.1 1 _ rfl) dX4_swapFirst_7 ?_
  refine go_rngI (c := 1) (i := 2) (hL.1 1 _ rfl) rfl (fun (q2 : -2147483648 ≤ (D 1 2) ∧ (D 1 2) < 2147483648) => ?_)
  refine go_icmp_ge 82 dX4_swapFirst_10 (by decide) s1 q2 (fun c3 => ?_) (fun c3 => ?_)
  · have h := h.1 c3
    refine go_iconst dX4_swapFirst_82 ?_
    exact go_zreturn (Nat.le_refl _) (Nat.le_refl _) rfl (by decide) dX4_swapFirst_83 h
  · have h := h.2 c3
    refine go_iload_n 1 dX4_swapFirst_13 rfl rfl ?_
    refine go_iconst dX4_swapFirst_14 ?_
    refine go_iadd dX4_swapFirst_15 ?_
    refine go_istore_n [1, 2, 0] (L' := [(0, vR E 56), (1, vI v1), (2, vI (v1 + 1))]) dX4_swapFirst_16 rfl (by decide) rfl ?_
    exact h
theorem s_X4_swapFirst_17 {l : Launch} {E : Ev} {Q : Int → Sh → Dm → Prop} {G : Sh} {D : Dm} (hL : Lay G) {v1 v2 : Int}  (h : ((-2147483648 ≤ v2 ∧ v2 < 2147483648)) ∧ (((D 1 2) ≤ v2 → KX4_swapFirst l E Q 2 [(0, vR E 56), (1, vI (v1 + 1))] G D) ∧ (v2 < (D 1 2) → C0 l E MX4_countSwaps 0 [vR E 56, vI v1, vI v2, vI 0] G D (fun r6 D6 => ((-2147483648 ≤ r6 ∧ r6 < 2147483648)) ∧ ((r6 ≤ 0 → KX4_swapFirst l E Q 17 [(0, vR E 56), (1, vI v1), (2, vI (v2 + 1))] G D6) ∧ (0 < r6 → ((0 ≤ (D6 57 0) ∧ (D6 57 0) < 10) ∧ (0 ≤ (D6 57 1) ∧ (D6 57 1) < 10) ∧ (-2147483648 ≤ v1 ∧ v1 < 2147483648)) ∧ Q 1 G (upd2 (upd2 D6 6 (D6 57 0) v2) 6 (D6 57 1) v1))))))) : KX4_swapFirst l E Q 17 [(0, vR E 56), (1, vI v1), (2, vI v2)] G D := by
  obtain ⟨s1, h⟩ := h
  refine go_iload_n 2 dX4_swapFirst_17 rfl rfl ?_
  refine go_aload_n 0 dX4_swapFirst_18 rfl rfl ?_
  refine go_getR 0 f_X4_22 rfl (hL.1 56 _ rfl) (hL.2.1 56 0 _ rfl (by decide)) dX4_swapFirst_19 ?_
  refine go_getI 2 (i := 2) f_X4_62 rfl (hL.1 1 _ rfl) dX4_swapFirst_22 ?_
  refine go_rngI (c := 1) (i := 2) (hL.1 1 _ rfl) rfl (fun (q2 : -2147483648 ≤ (D 1 2) ∧ (D 1 2) < 2147483648) => ?_)
  refine go_icmp_ge 76 dX4_swapFirst_25 (by decide) s1 q2 (fun c3 => ?_) (fun c3 => ?_)
  · have h := h.1 c3
    refine go_iinc 1 [1, 0, 2] (L' := [(0, vR E 56), (1, vI (v1 + 1)), (2, vI v2)]) dX4_swapFirst_76 (by decide) rfl rfl ?_
    refine go_goto 2 dX4_swapFirst_79 (by decide) ?_
    refine go_sub [0, 1] (L' := [(0, vR E 56), (1, vI (v1 + 1))]) rfl ?_
    exact h
  · have h := h.2 c3
    refine go_aload_n 0 dX4_swapFirst_28 rfl rfl ?_
    refine go_iload_n 1 dX4_swapFirst_29 rfl rfl ?_
    refine go_iload_n 2 dX4_swapFirst_30 rfl rfl ?_
    refine go_iconst dX4_swapFirst_31 ?_
    refine go_vI (M := MX4_countSwaps) [vI v1, vI v2, vI 0] [] mv_X4_65 (hL.1 56 _ rfl) rfl (by decide) ⟨Nat.le_of_ble_eq_true rfl, Nat.le_of_ble_eq_true rfl⟩ ⟨Nat.le_refl _, Nat.le_refl _⟩ rfl rfl (Nat.le_of_ble_eq_true rfl) dX4_swapFirst_32 h (fun r6 D6 h => ?_)
    obtain ⟨s7, h⟩ := h
    refine go_if_le 70 dX4_swapFirst_35 (by decide) s7 (fun c8 => ?_) (fun c8 => ?_)
    · have h := h.1 c8
      refine go_iinc 2 [1, 2, 0] (L' := [(0, vR E 56), (1, vI v1), (2, vI (v2 + 1))]) dX4_swapFirst_70 (by decide) rfl rfl ?_
      refine go_goto 17 dX4_swapFirst_73 (by decide) ?_
      exact h
    · have h := h.2 c8
      obtain ⟨s10, h⟩ := h
      refine go_aload_n 0 dX4_swapFirst_38 rfl rfl ?_
      refine go_getR 0 f_X4_22 rfl (hL.1 56 _ rfl) (hL.2.1 56 0 _ rfl (by decide)) dX4_swapFirst_39 ?_
      refine go_getR 9 f_X4_69 rfl (hL.1 1 _ rfl) (hL.2.1 1 9 _ rfl (by decide)) dX4_swapFirst_42 ?_
      refine go_aload_n 0 dX4_swapFirst_45 rfl rfl ?_
      refine go_getR 2 f_X4_9 rfl (hL.1 56 _ rfl) (hL.2.1 56 2 _ rfl (by decide)) dX4_swapFirst_46 ?_
      refine go_iconst dX4_swapFirst_49 ?_
      refine go_iaload (hL.1 57 _ rfl) (b := 3) rfl (by decide) (by decide) dX4_swapFirst_50 ?_
      refine go_iload_n 2 dX4_swapFirst_51 rfl rfl ?_
      refine go_iastore (hL.1 6 _ rfl) (b := 10) rfl (by decide) s10.1 s1 dX4_swapFirst_52 ?_
      refine go_aload_n 0 dX4_swapFirst_53 rfl rfl ?_
      refine go_getR 0 f_X4_22 rfl (hL.1 56 _ rfl) (hL.2.1 56 0 _ rfl (by decide)) dX4_swapFirst_54 ?_
      refine go_getR 9 f_X4_69 rfl (hL.1 1 _ rfl) (hL.2.1 1 9 _ rfl (by decide)) dX4_swapFirst_57 ?_
      refine go_aload_n 0 dX4_swapFirst_60 rfl rfl ?_
      refine go_getR 2 f_X4_9 rfl (hL.1 56 _ rfl) (hL.2.1 56 2 _ rfl (by decide)) dX4_swapFirst_61 ?_
      refine go_iconst dX4_swapFirst_64 ?_
      refine go_iaload (hL.1 57 _ rfl) (b := 3) rfl (by decide) (by decide) dX4_swapFirst_65 ?_
      refine go_iload_n 1 dX4_swapFirst_66 rfl rfl ?_
      refine go_iastore (hL.1 6 _ rfl) (b := 10) rfl (by decide) s10.2.1 s10.2.2 dX4_swapFirst_67 ?_
      refine go_iconst dX4_swapFirst_68 ?_
      exact go_zreturn (Nat.le_refl _) (Nat.le_refl _) rfl (by decide) dX4_swapFirst_69 h
