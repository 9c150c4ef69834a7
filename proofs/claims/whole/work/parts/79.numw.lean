-- digits: the number may run over
theorem s_X6_scanNumber_5w {l : Launch} {E : Ev} {Q : Int → Sh → Dm → Prop} {G : Sh} {D : Dm} (hL : Lay G)  (h : (((D 23 5) ≤ (D 23 6) → ((-2147483648 ≤ ((D 23 6) - (D 23 8)) ∧ ((D 23 6) - (D 23 8)) < 2147483648)) ∧ ((2 < ((D 23 6) - (D 23 8)) → Q 0 G (upd2 D 23 7 4)) ∧ (((D 23 6) - (D 23 8)) ≤ 2 → Q 0 G (upd2 D 23 7 2)))) ∧ ((D 23 6) < (D 23 5) → ((0 ≤ (D 23 6) ∧ (D 23 6) < 600)) ∧ ((¬ ((48 ≤ (D 24 (D 23 6))) ∧ ((D 24 (D 23 6)) ≤ 57)) → ((-2147483648 ≤ ((D 23 6) - (D 23 8)) ∧ ((D 23 6) - (D 23 8)) < 2147483648)) ∧ ((2 < ((D 23 6) - (D 23 8)) → Q 0 G (upd2 D 23 7 4)) ∧ (((D 23 6) - (D 23 8)) ≤ 2 → Q 0 G (upd2 D 23 7 2)))) ∧ (((48 ≤ (D 24 (D 23 6))) ∧ ((D 24 (D 23 6)) ≤ 57)) → ((-2147483648 ≤ ((D 23 6) + 1) ∧ ((D 23 6) + 1) < 2147483648)) ∧ KX6_scanNumber l E Q 5 [(0, vR E 23)] G (upd2 (upd2 D 23 9 (w32 (((D 23 9) * 10) + ((D 24 (D 23 6)) - 48)))) 23 6 ((D 23 6) + 1))))))) : KX6_scanNumber l E Q 5 [(0, vR E 23)] G D := by
  refine go_aload_n 0 dX6_scanNumber_5 rfl rfl ?_
  refine go_getI 6 (i := 6) f_X6_35 rfl (hL.1 23 _ rfl) dX6_scanNumber_6 ?_
  refine go_aload_n 0 dX6_scanNumber_9 rfl rfl ?_
  refine go_getI 5 (i := 5) f_X6_32 rfl (hL.1 23 _ rfl) dX6_scanNumber_10 ?_
  refine go_rngI (c := 23) (i := 6) (hL.1 23 _ rfl) rfl (fun (q2 : -2147483648 ≤ (D 23 6) ∧ (D 23 6) < 2147483648) => ?_)
  refine go_rngI (c := 23) (i := 5) (hL.1 23 _ rfl) rfl (fun (q3 : -2147483648 ≤ (D 23 5) ∧ (D 23 5) < 2147483648) => ?_)
  refine go_icmp_ge 68 dX6_scanNumber_13 (by decide) q2 q3 (fun c4 => ?_) (fun c4 => ?_)
  · have h := h.1 c4
    obtain ⟨s5, h⟩ := h
    refine go_aload_n 0 dX6_scanNumber_68 rfl rfl ?_
    refine go_aload_n 0 dX6_scanNumber_69 rfl rfl ?_
    refine go_getI 6 (i := 6) f_X6_35 rfl (hL.1 23 _ rfl) dX6_scanNumber_70 ?_
    refine go_aload_n 0 dX6_scanNumber_73 rfl rfl ?_
    refine go_getI 8 (i := 8) f_X6_41 rfl (hL.1 23 _ rfl) dX6_scanNumber_74 ?_
    refine go_isub dX6_scanNumber_77 ?_
    refine go_iconst dX6_scanNumber_78 ?_
    refine go_icmp_gt 86 dX6_scanNumber_79 (by decide) s5 (by decide) (fun c6 => ?_) (fun c6 => ?_)
    · have h := h.1 c6
      refine go_iconst dX6_scanNumber_86 ?_
      refine go_putI 7 (i := 7) (by decide) f_X6_38 rfl (hL.1 23 _ rfl) dX6_scanNumber_87 ?_
      exact go_return (Nat.le_refl _) (Nat.le_refl _) rfl dX6_scanNumber_90 h
    · have h := h.2 c6
      refine go_iconst dX6_scanNumber_82 ?_
      refine go_goto 87 dX6_scanNumber_83 (by decide) ?_
      refine go_putI 7 (i := 7) (by decide) f_X6_38 rfl (hL.1 23 _ rfl) dX6_scanNumber_87 ?_
      exact go_return (Nat.le_refl _) (Nat.le_refl _) rfl dX6_scanNumber_90 h
  · have h := h.2 c4
    obtain ⟨s9, h⟩ := h
    refine go_aload_n 0 dX6_scanNumber_16 rfl rfl ?_
    refine go_getR 0 f_X6_9 rfl (hL.1 23 _ rfl) (hL.2.1 23 0 _ rfl (by decide)) dX6_scanNumber_17 ?_
    refine go_aload_n 0 dX6_scanNumber_20 rfl rfl ?_
    refine go_getI 6 (i := 6) f_X6_35 rfl (hL.1 23 _ rfl) dX6_scanNumber_21 ?_
    refine go_baload (hL.1 24 _ rfl) (b := 600) rfl (by decide) s9 dX6_scanNumber_24 ?_
    refine go_rngI (c := 24) (i := (D 23 6)) (hL.1 24 _ rfl) rfl (fun (q11 : -2147483648 ≤ (D 24 (D 23 6)) ∧ (D 24 (D 23 6)) < 2147483648) => ?_)
    refine go_sIp (M := MX6_isDigit) [vI (D 24 (D 23 6))] [] ms_X6_210 ⟨Nat.le_of_ble_eq_true rfl, Nat.le_of_ble_eq_true rfl⟩ ⟨Nat.le_refl _, Nat.le_refl _⟩ rfl rfl (Nat.le_of_ble_eq_true rfl) dX6_scanNumber_25 (p_X6_isDigit hL q11) ?_
    refine go_ifb_eq 68 dX6_scanNumber_28 (by decide) (fun c12 => ?_) (fun c12 => ?_)
    · have h := h.1 c12
      obtain ⟨s13, h⟩ := h
      refine go_aload_n 0 dX6_scanNumber_68 rfl rfl ?_
      refine go_aload_n 0 dX6_scanNumber_69 rfl rfl ?_
      refine go_getI 6 (i := 6) f_X6_35 rfl (hL.1 23 _ rfl) dX6_scanNumber_70 ?_
      refine go_aload_n 0 dX6_scanNumber_73 rfl rfl ?_
      refine go_getI 8 (i := 8) f_X6_41 rfl (hL.1 23 _ rfl) dX6_scanNumber_74 ?_
      refine go_isub dX6_scanNumber_77 ?_
      refine go_iconst dX6_scanNumber_78 ?_
      refine go_icmp_gt 86 dX6_scanNumber_79 (by decide) s13 (by decide) (fun c14 => ?_) (fun c14 => ?_)
      · have h := h.1 c14
        refine go_iconst dX6_scanNumber_86 ?_
        refine go_putI 7 (i := 7) (by decide) f_X6_38 rfl (hL.1 23 _ rfl) dX6_scanNumber_87 ?_
        exact go_return (Nat.le_refl _) (Nat.le_refl _) rfl dX6_scanNumber_90 h
      · have h := h.2 c14
        refine go_iconst dX6_scanNumber_82 ?_
        refine go_goto 87 dX6_scanNumber_83 (by decide) ?_
        refine go_putI 7 (i := 7) (by decide) f_X6_38 rfl (hL.1 23 _ rfl) dX6_scanNumber_87 ?_
        exact go_return (Nat.le_refl _) (Nat.le_refl _) rfl dX6_scanNumber_90 h
    · have h := h.2 c12
      obtain ⟨s17, h⟩ := h
      refine go_aload_n 0 dX6_scanNumber_31 rfl rfl ?_
      refine go_aload_n 0 dX6_scanNumber_32 rfl rfl ?_
      refine go_getI 9 (i := 9) f_X6_44 rfl (hL.1 23 _ rfl) dX6_scanNumber_33 ?_
      refine go_bipush dX6_scanNumber_36 (by decide) ?_
      refine go_imul dX6_scanNumber_38 ?_
      refine go_aload_n 0 dX6_scanNumber_39 rfl rfl ?_
      refine go_getR 0 f_X6_9 rfl (hL.1 23 _ rfl) (hL.2.1 23 0 _ rfl (by decide)) dX6_scanNumber_40 ?_
      refine go_aload_n 0 dX6_scanNumber_43 rfl rfl ?_
      refine go_getI 6 (i := 6) f_X6_35 rfl (hL.1 23 _ rfl) dX6_scanNumber_44 ?_
      refine go_baload (hL.1 24 _ rfl) (b := 600) rfl (by decide) s9 dX6_scanNumber_47 ?_
      refine go_bipush dX6_scanNumber_48 (by decide) ?_
      refine go_isub dX6_scanNumber_50 ?_
      refine go_iadd dX6_scanNumber_51 ?_
      rw [vI_w32 (((D 23 9) * 10) + ((D 24 (D 23 6)) - 48))]
      refine go_putI 9 (i := 9) (w32_b _) f_X6_44 rfl (hL.1 23 _ rfl) dX6_scanNumber_52 ?_
      refine go_aload_n 0 dX6_scanNumber_55 rfl rfl ?_
      refine go_dup rfl dX6_scanNumber_56 ?_
      refine go_getI 6 (i := 6) f_X6_35 rfl (hL.1 23 _ rfl) dX6_scanNumber_57 ?_
      refine go_iconst dX6_scanNumber_60 ?_
      refine go_iadd dX6_scanNumber_61 ?_
      refine go_putI 6 (i := 6) s17 f_X6_35 rfl (hL.1 23 _ rfl) dX6_scanNumber_62 ?_
      refine go_goto 5 dX6_scanNumber_65 (by decide) ?_
      exact h
