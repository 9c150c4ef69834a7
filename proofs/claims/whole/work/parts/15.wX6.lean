theorem s_X6_append {l : Launch} {E : Ev} {Q : Int → Sh → Dm → Prop} {G : Sh} {D : Dm} (hL : Lay G) {v1 : Int}  (h : KX6_append l E Q 3 [(0, vR E 23), (1, vI v1), (2, vI 24)] G D) : Ct l E MX6_append 2 0 0 [vR E 23, vI v1] G D Q := by
  refine Ct.of (by decide) (Nat.le_of_ble_eq_true rfl) ?_
  show KX6_append l E Q 0 [(0, vR E 23), (1, vI v1)] G D
  refine go_bipush dX6_append_0 (by decide) ?_
  refine go_istore_n [1, 2, 0] (L' := [(0, vR E 23), (1, vI v1), (2, vI 24)]) dX6_append_2 rfl (by decide) rfl ?_
  exact h
theorem s_X6_append_3 {l : Launch} {E : Ev} {Q : Int → Sh → Dm → Prop} {G : Sh} {D : Dm} (hL : Lay G) {v1 v2 : Int}  (h : ((-2147483648 ≤ v2 ∧ v2 < 2147483648)) ∧ ((v2 < 0 → Q 0 G D) ∧ (0 ≤ v2 → ((600 ≤ (D 23 1) → KX6_append l E Q 3 [(0, vR E 23), (1, vI v1), (2, vI (v2 + (-8)))] G D) ∧ ((D 23 1) < 600 → ((0 ≤ (D 23 1) ∧ (D 23 1) < 600) ∧ (-2147483648 ≤ ((D 23 1) + 1) ∧ ((D 23 1) + 1) < 2147483648)) ∧ KX6_append l E Q 3 [(0, vR E 23), (1, vI v1), (2, vI (v2 + (-8)))] G (upd2 (upd2 D 24 (D 23 1) (b8 (iSr v1 v2))) 23 1 ((D 23 1) + 1))))))) : KX6_append l E Q 3 [(0, vR E 23), (1, vI v1), (2, vI v2)] G D := by
  obtain ⟨s1, h⟩ := h
  refine go_iload_n 2 dX6_append_3 rfl rfl ?_
  refine go_if_lt 46 dX6_append_4 (by decide) s1 (fun c2 => ?_) (fun c2 => ?_)
  · have h := h.1 c2
    exact go_return (Nat.le_refl _) (Nat.le_refl _) rfl dX6_append_46 h
  · have h := h.2 c2
    refine go_aload_n 0 dX6_append_7 rfl rfl ?_
    refine go_getI 1 (i := 1) f_X6_15 rfl (hL.1 23 _ rfl) dX6_append_8 ?_
    refine go_sipush dX6_append_11 (by decide) ?_
    refine go_rngI (c := 23) (i := 1) (hL.1 23 _ rfl) rfl (fun (q5 : -2147483648 ≤ (D 23 1) ∧ (D 23 1) < 2147483648) => ?_)
    refine go_icmp_ge 40 dX6_append_14 (by decide) q5 (by decide) (fun c6 => ?_) (fun c6 => ?_)
    · have h := h.1 c6
      refine go_iinc 2 [1, 2, 0] (L' := [(0, vR E 23), (1, vI v1), (2, vI (v2 + (-8)))]) dX6_append_40 (by decide) rfl rfl ?_
      refine go_goto 3 dX6_append_43 (by decide) ?_
      exact h
    · have h := h.2 c6
      obtain ⟨s8, h⟩ := h
      refine go_aload_n 0 dX6_append_17 rfl rfl ?_
      refine go_getR 0 f_X6_9 rfl (hL.1 23 _ rfl) (hL.2.1 23 0 _ rfl (by decide)) dX6_append_18 ?_
      refine go_aload_n 0 dX6_append_21 rfl rfl ?_
      refine go_getI 1 (i := 1) f_X6_15 rfl (hL.1 23 _ rfl) dX6_append_22 ?_
      refine go_iload_n 1 dX6_append_25 rfl rfl ?_
      refine go_iload_n 2 dX6_append_26 rfl rfl ?_
      refine go_ishr dX6_append_27 ?_
      refine go_i2b dX6_append_28 ?_
      refine go_bastore (hL.1 24 _ rfl) (b := 600) rfl (by decide) s8.1 (rb8 _) dX6_append_29 ?_
      refine go_aload_n 0 dX6_append_30 rfl rfl ?_
      refine go_dup rfl dX6_append_31 ?_
      refine go_getI 1 (i := 1) f_X6_15 rfl (hL.1 23 _ rfl) dX6_append_32 ?_
      refine go_iconst dX6_append_35 ?_
      refine go_iadd dX6_append_36 ?_
      refine go_putI 1 (i := 1) s8.2 f_X6_15 rfl (hL.1 23 _ rfl) dX6_append_37 ?_
      refine go_iinc 2 [1, 2, 0] (L' := [(0, vR E 23), (1, vI v1), (2, vI (v2 + (-8)))]) dX6_append_40 (by decide) rfl rfl ?_
      refine go_goto 3 dX6_append_43 (by decide) ?_
      exact h
theorem s_X6_isLetter {l : Launch} {E : Ev} {Q : Int → Sh → Dm → Prop} {G : Sh} {D : Dm} (hL : Lay G) {v0 : Int}  (h : ((-2147483648 ≤ v0 ∧ v0 < 2147483648)) ∧ ((v0 < 97 → Q 0 G D) ∧ (97 ≤ v0 → ((122 < v0 → Q 0 G D) ∧ (v0 ≤ 122 → Q 1 G D))))) : Ct l E MX6_isLetter 0 0 0 [vI v0] G D Q := by
  refine Ct.of (by decide) (Nat.le_of_ble_eq_true rfl) ?_
  show KX6_isLetter l E Q 0 [(0, vI v0)] G D
  obtain ⟨s1, h⟩ := h
  refine go_iload_n 0 dX6_isLetter_0 rfl rfl ?_
  refine go_bipush dX6_isLetter_1 (by decide) ?_
  refine go_icmp_lt 16 dX6_isLetter_3 (by decide) s1 (by decide) (fun c2 => ?_) (fun c2 => ?_)
  · have h := h.1 c2
    refine go_iconst dX6_isLetter_16 ?_
    exact go_zreturn (Nat.le_refl _) (Nat.le_refl _) rfl (by decide) dX6_isLetter_17 h
  · have h := h.2 c2
    refine go_iload_n 0 dX6_isLetter_6 rfl rfl ?_
    refine go_bipush dX6_isLetter_7 (by decide) ?_
    refine go_icmp_gt 16 dX6_isLetter_9 (by decide) s1 (by decide) (fun c5 => ?_) (fun c5 => ?_)
    · have h := h.1 c5
      refine go_iconst dX6_isLetter_16 ?_
      exact go_zreturn (Nat.le_refl _) (Nat.le_refl _) rfl (by decide) dX6_isLetter_17 h
    · have h := h.2 c5
      refine go_iconst dX6_isLetter_12 ?_
      refine go_goto 17 dX6_isLetter_13 (by decide) ?_
      exact go_zreturn (Nat.le_refl _) (Nat.le_refl _) rfl (by decide) dX6_isLetter_17 h
theorem p_X6_isLetter {l : Launch} {E : Ev} {G : Sh} {D : Dm} (hL : Lay G) {v0 : Int}  (q0 : -2147483648 ≤ v0 ∧ v0 < 2147483648) : C0 l E MX6_isLetter 0 [vI v0] G D (fun r D' => r = (if ((97 ≤ v0) ∧ (v0 ≤ 122)) then 1 else 0) ∧ D' = D) := by
  refine s_X6_isLetter hL ?_
  refine ⟨q0, ?_⟩
  refine ⟨fun hc => ?_, fun hc => ?_⟩
  · refine ⟨rfl, ?_, rfl⟩
    (split <;> first | rfl | (exfalso; simp_all; done) | omega | simp_all)
  · refine ⟨fun hc => ?_, fun hc => ?_⟩
    · refine ⟨rfl, ?_, rfl⟩
      (split <;> first | rfl | (exfalso; simp_all; done) | omega | simp_all)
    · refine ⟨rfl, ?_, rfl⟩
      (split <;> first | rfl | (exfalso; simp_all; done) | omega | simp_all)
theorem s_X6_scanWord {l : Launch} {E : Ev} {Q : Int → Sh → Dm → Prop} {G : Sh} {D : Dm} (hL : Lay G)  (h : KX6_scanWord l E Q 10 [(0, vR E 23)] G (upd2 (upd2 D 23 7 1) 23 10 0)) : Ct l E MX6_scanWord 2 0 0 [vR E 23] G D Q := by
  refine Ct.of (by decide) (Nat.le_of_ble_eq_true rfl) ?_
  show KX6_scanWord l E Q 0 [(0, vR E 23)] G D
  refine go_aload_n 0 dX6_scanWord_0 rfl rfl ?_
  refine go_iconst dX6_scanWord_1 ?_
  refine go_putI 7 (i := 7) (by decide) f_X6_38 rfl (hL.1 23 _ rfl) dX6_scanWord_2 ?_
  refine go_aload_n 0 dX6_scanWord_5 rfl rfl ?_
  refine go_lconst (x := 0) dX6_scanWord_6 rfl ?_
  refine go_putJ 10 (i := 10) (by decide) f_X6_47 rfl (hL.1 23 _ rfl) dX6_scanWord_7 ?_
  exact h
theorem s_X6_scanWord_10 {l : Launch} {E : Ev} {Q : Int → Sh → Dm → Prop} {G : Sh} {D : Dm} (hL : Lay G)  (h : (((D 23 5) ≤ (D 23 6) → ((-2147483648 ≤ ((D 23 6) - (D 23 8)) ∧ ((D 23 6) - (D 23 8)) < 2147483648)) ∧ ((((D 23 6) - (D 23 8)) ≤ 8 → Q 0 G D) ∧ (8 < ((D 23 6) - (D 23 8)) → Q 0 G (upd2 D 23 10 0)))) ∧ ((D 23 6) < (D 23 5) → ((0 ≤ (D 23 6) ∧ (D 23 6) < 600)) ∧ ((¬ ((97 ≤ (D 24 (D 23 6))) ∧ ((D 24 (D 23 6)) ≤ 122)) → ((-2147483648 ≤ ((D 23 6) - (D 23 8)) ∧ ((D 23 6) - (D 23 8)) < 2147483648)) ∧ ((((D 23 6) - (D 23 8)) ≤ 8 → Q 0 G D) ∧ (8 < ((D 23 6) - (D 23 8)) → Q 0 G (upd2 D 23 10 0)))) ∧ (((97 ≤ (D 24 (D 23 6))) ∧ ((D 24 (D 23 6)) ≤ 122)) → ((-2147483648 ≤ ((D 23 6) + 1) ∧ ((D 23 6) + 1) < 2147483648)) ∧ KX6_scanWord l E Q 10 [(0, vR E 23)] G (upd2 (upd2 D 23 10 (jO (jSl (D 23 10) 8) (D 24 (D 23 6)))) 23 6 ((D 23 6) + 1))))))) : KX6_scanWord l E Q 10 [(0, vR E 23)] G D := by
  refine go_aload_n 0 dX6_scanWord_10 rfl rfl ?_
  refine go_getI 6 (i := 6) f_X6_35 rfl (hL.1 23 _ rfl) dX6_scanWord_11 ?_
  refine go_aload_n 0 dX6_scanWord_14 rfl rfl ?_
  refine go_getI 5 (i := 5) f_X6_32 rfl (hL.1 23 _ rfl) dX6_scanWord_15 ?_
  refine go_rngI (c := 23) (i := 6) (hL.1 23 _ rfl) rfl (fun (q2 : -2147483648 ≤ (D 23 6) ∧ (D 23 6) < 2147483648) => ?_)
  refine go_rngI (c := 23) (i := 5) (hL.1 23 _ rfl) rfl (fun (q3 : -2147483648 ≤ (D 23 5) ∧ (D 23 5) < 2147483648) => ?_)
  refine go_icmp_ge 71 dX6_scanWord_18 (by decide) q2 q3 (fun c4 => ?_) (fun c4 => ?_)
  · have h := h.1 c4
    obtain ⟨s5, h⟩ := h
    refine go_aload_n 0 dX6_scanWord_71 rfl rfl ?_
    refine go_getI 6 (i := 6) f_X6_35 rfl (hL.1 23 _ rfl) dX6_scanWord_72 ?_
    refine go_aload_n 0 dX6_scanWord_75 rfl rfl ?_
    refine go_getI 8 (i := 8) f_X6_41 rfl (hL.1 23 _ rfl) dX6_scanWord_76 ?_
    refine go_isub dX6_scanWord_79 ?_
    refine go_bipush dX6_scanWord_80 (by decide) ?_
    refine go_icmp_le 90 dX6_scanWord_82 (by decide) s5 (by decide) (fun c6 => ?_) (fun c6 => ?_)
    · have h := h.1 c6
      exact go_return (Nat.le_refl _) (Nat.le_refl _) rfl dX6_scanWord_90 h
    · have h := h.2 c6
      refine go_aload_n 0 dX6_scanWord_85 rfl rfl ?_
      refine go_lconst (x := 0) dX6_scanWord_86 rfl ?_
      refine go_putJ 10 (i := 10) (by decide) f_X6_47 rfl (hL.1 23 _ rfl) dX6_scanWord_87 ?_
      exact go_return (Nat.le_refl _) (Nat.le_refl _) rfl dX6_scanWord_90 h
  · have h := h.2 c4
    obtain ⟨s9, h⟩ := h
    refine go_aload_n 0 dX6_scanWord_21 rfl rfl ?_
    refine go_getR 0 f_X6_9 rfl (hL.1 23 _ rfl) (hL.2.1 23 0 _ rfl (by decide)) dX6_scanWord_22 ?_
    refine go_aload_n 0 dX6_scanWord_25 rfl rfl ?_
    refine go_getI 6 (i := 6) f_X6_35 rfl (hL.1 23 _ rfl) dX6_scanWord_26 ?_
    refine go_baload (hL.1 24 _ rfl) (b := 600) rfl (by decide) s9 dX6_scanWord_29 ?_
    refine go_rngI (c := 24) (i := (D 23 6)) (hL.1 24 _ rfl) rfl (fun (q11 : -2147483648 ≤ (D 24 (D 23 6)) ∧ (D 24 (D 23 6)) < 2147483648) => ?_)
    refine go_sIp (M := MX6_isLetter) [vI (D 24 (D 23 6))] [] ms_X6_203 ⟨Nat.le_of_ble_eq_true rfl, Nat.le_of_ble_eq_true rfl⟩ ⟨Nat.le_refl _, Nat.le_refl _⟩ rfl rfl (Nat.le_of_ble_eq_true rfl) dX6_scanWord_30 (p_X6_isLetter hL q11) ?_
    refine go_ifb_eq 71 dX6_scanWord_33 (by decide) (fun c12 => ?_) (fun c12 => ?_)
    · have h := h.1 c12
      obtain ⟨s13, h⟩ := h
      refine go_aload_n 0 dX6_scanWord_71 rfl rfl ?_
      refine go_getI 6 (i := 6) f_X6_35 rfl (hL.1 23 _ rfl) dX6_scanWord_72 ?_
      refine go_aload_n 0 dX6_scanWord_75 rfl rfl ?_
      refine go_getI 8 (i := 8) f_X6_41 rfl (hL.1 23 _ rfl) dX6_scanWord_76 ?_
      refine go_isub dX6_scanWord_79 ?_
      refine go_bipush dX6_scanWord_80 (by decide) ?_
      refine go_icmp_le 90 dX6_scanWord_82 (by decide) s13 (by decide) (fun c14 => ?_) (fun c14 => ?_)
      · have h := h.1 c14
        exact go_return (Nat.le_refl _) (Nat.le_refl _) rfl dX6_scanWord_90 h
      · have h := h.2 c14
        refine go_aload_n 0 dX6_scanWord_85 rfl rfl ?_
        refine go_lconst (x := 0) dX6_scanWord_86 rfl ?_
        refine go_putJ 10 (i := 10) (by decide) f_X6_47 rfl (hL.1 23 _ rfl) dX6_scanWord_87 ?_
        exact go_return (Nat.le_refl _) (Nat.le_refl _) rfl dX6_scanWord_90 h
    · have h := h.2 c12
      obtain ⟨s17, h⟩ := h
      refine go_aload_n 0 dX6_scanWord_36 rfl rfl ?_
      refine go_aload_n 0 dX6_scanWord_37 rfl rfl ?_
      refine go_getJ 10 (i := 10) f_X6_47 rfl (hL.1 23 _ rfl) dX6_scanWord_38 ?_
      refine go_bipush dX6_scanWord_41 (by decide) ?_
      refine go_lshl dX6_scanWord_43 ?_
      refine go_aload_n 0 dX6_scanWord_44 rfl rfl ?_
      refine go_getR 0 f_X6_9 rfl (hL.1 23 _ rfl) (hL.2.1 23 0 _ rfl (by decide)) dX6_scanWord_45 ?_
      refine go_aload_n 0 dX6_scanWord_48 rfl rfl ?_
      refine go_getI 6 (i := 6) f_X6_35 rfl (hL.1 23 _ rfl) dX6_scanWord_49 ?_
      refine go_baload (hL.1 24 _ rfl) (b := 600) rfl (by decide) s9 dX6_scanWord_52 ?_
      refine go_i2l q11 dX6_scanWord_53 ?_
      refine go_lor dX6_scanWord_54 ?_
      refine go_putJ 10 (i := 10) (r64 _) f_X6_47 rfl (hL.1 23 _ rfl) dX6_scanWord_55 ?_
      refine go_aload_n 0 dX6_scanWord_58 rfl rfl ?_
      refine go_dup rfl dX6_scanWord_59 ?_
      refine go_getI 6 (i := 6) f_X6_35 rfl (hL.1 23 _ rfl) dX6_scanWord_60 ?_
      refine go_iconst dX6_scanWord_63 ?_
      refine go_iadd dX6_scanWord_64 ?_
      refine go_putI 6 (i := 6) s17 f_X6_35 rfl (hL.1 23 _ rfl) dX6_scanWord_65 ?_
      refine go_goto 10 dX6_scanWord_68 (by decide) ?_
      exact h
theorem s_X6_isDigit {l : Launch} {E : Ev} {Q : Int → Sh → Dm → Prop} {G : Sh} {D : Dm} (hL : Lay G) {v0 : Int}  (h : ((-2147483648 ≤ v0 ∧ v0 < 2147483648)) ∧ ((v0 < 48 → Q 0 G D) ∧ (48 ≤ v0 → ((57 < v0 → Q 0 G D) ∧ (v0 ≤ 57 → Q 1 G D))))) : Ct l E MX6_isDigit 0 0 0 [vI v0] G D Q := by
  refine Ct.of (by decide) (Nat.le_of_ble_eq_true rfl) ?_
  show KX6_isDigit l E Q 0 [(0, vI v0)] G D
  obtain ⟨s1, h⟩ := h
  refine go_iload_n 0 dX6_isDigit_0 rfl rfl ?_
  refine go_bipush dX6_isDigit_1 (by decide) ?_
  refine go_icmp_lt 16 dX6_isDigit_3 (by decide) s1 (by decide) (fun c2 => ?_) (fun c2 => ?_)
  · have h := h.1 c2
    refine go_iconst dX6_isDigit_16 ?_
    exact go_zreturn (Nat.le_refl _) (Nat.le_refl _) rfl (by decide) dX6_isDigit_17 h
  · have h := h.2 c2
    refine go_iload_n 0 dX6_isDigit_6 rfl rfl ?_
    refine go_bipush dX6_isDigit_7 (by decide) ?_
    refine go_icmp_gt 16 dX6_isDigit_9 (by decide) s1 (by decide) (fun c5 => ?_) (fun c5 => ?_)
    · have h := h.1 c5
      refine go_iconst dX6_isDigit_16 ?_
      exact go_zreturn (Nat.le_refl _) (Nat.le_refl _) rfl (by decide) dX6_isDigit_17 h
    · have h := h.2 c5
      refine go_iconst dX6_isDigit_12 ?_
      refine go_goto 17 dX6_isDigit_13 (by decide) ?_
      exact go_zreturn (Nat.le_refl _) (Nat.le_refl _) rfl (by decide) dX6_isDigit_17 h
theorem p_X6_isDigit {l : Launch} {E : Ev} {G : Sh} {D : Dm} (hL : Lay G) {v0 : Int}  (q0 : -2147483648 ≤ v0 ∧ v0 < 2147483648) : C0 l E MX6_isDigit 0 [vI v0] G D (fun r D' => r = (if ((48 ≤ v0) ∧ (v0 ≤ 57)) then 1 else 0) ∧ D' = D) := by
  refine s_X6_isDigit hL ?_
  refine ⟨q0, ?_⟩
  refine ⟨fun hc => ?_, fun hc => ?_⟩
  · refine ⟨rfl, ?_, rfl⟩
    (split <;> first | rfl | (exfalso; simp_all; done) | omega | simp_all)
  · refine ⟨fun hc => ?_, fun hc => ?_⟩
    · refine ⟨rfl, ?_, rfl⟩
      (split <;> first | rfl | (exfalso; simp_all; done) | omega | simp_all)
    · refine ⟨rfl, ?_, rfl⟩
      (split <;> first | rfl | (exfalso; simp_all; done) | omega | simp_all)
theorem s_X6_scanNumber {l : Launch} {E : Ev} {Q : Int → Sh → Dm → Prop} {G : Sh} {D : Dm} (hL : Lay G)  (h : KX6_scanNumber l E Q 5 [(0, vR E 23)] G (upd2 D 23 9 0)) : Ct l E MX6_scanNumber 2 0 0 [vR E 23] G D Q := by
  refine Ct.of (by decide) (Nat.le_of_ble_eq_true rfl) ?_
  show KX6_scanNumber l E Q 0 [(0, vR E 23)] G D
  refine go_aload_n 0 dX6_scanNumber_0 rfl rfl ?_
  refine go_iconst dX6_scanNumber_1 ?_
  refine go_putI 9 (i := 9) (by decide) f_X6_44 rfl (hL.1 23 _ rfl) dX6_scanNumber_2 ?_
  exact h
theorem s_X6_scanNumber_5 {l : Launch} {E : Ev} {Q : Int → Sh → Dm → Prop} {G : Sh} {D : Dm} (hL : Lay G)  (h : (((D 23 5) ≤ (D 23 6) → ((-2147483648 ≤ ((D 23 6) - (D 23 8)) ∧ ((D 23 6) - (D 23 8)) < 2147483648)) ∧ ((2 < ((D 23 6) - (D 23 8)) → Q 0 G (upd2 D 23 7 4)) ∧ (((D 23 6) - (D 23 8)) ≤ 2 → Q 0 G (upd2 D 23 7 2)))) ∧ ((D 23 6) < (D 23 5) → ((0 ≤ (D 23 6) ∧ (D 23 6) < 600)) ∧ ((¬ ((48 ≤ (D 24 (D 23 6))) ∧ ((D 24 (D 23 6)) ≤ 57)) → ((-2147483648 ≤ ((D 23 6) - (D 23 8)) ∧ ((D 23 6) - (D 23 8)) < 2147483648)) ∧ ((2 < ((D 23 6) - (D 23 8)) → Q 0 G (upd2 D 23 7 4)) ∧ (((D 23 6) - (D 23 8)) ≤ 2 → Q 0 G (upd2 D 23 7 2)))) ∧ (((48 ≤ (D 24 (D 23 6))) ∧ ((D 24 (D 23 6)) ≤ 57)) → ((-2147483648 ≤ (((D 23 9) * 10) + ((D 24 (D 23 6)) - 48)) ∧ (((D 23 9) * 10) + ((D 24 (D 23 6)) - 48)) < 2147483648) ∧ (-2147483648 ≤ ((D 23 6) + 1) ∧ ((D 23 6) + 1) < 2147483648)) ∧ KX6_scanNumber l E Q 5 [(0, vR E 23)] G (upd2 (upd2 D 23 9 (((D 23 9) * 10) + ((D 24 (D 23 6)) - 48))) 23 6 ((D 23 6) + 1))))))) : KX6_scanNumber l E Q 5 [(0, vR E 23)] G D := by
  refine go_aload_n 0 dX6_scanNumber_5 rfl rfl ?_
  refine go_getI 6 (i := 6) f_X6_35 rfl (hL.1 23 _ rfl) dX6_scanNumber_6 ?_
  refine go_aload_n 0 dX6_scanNumber_9 rfl rfl ?_
  refine go_getI 5 (i := 5) f_X6_32 rfl (hL.1 23 _ rfl) dX6_scanNumber_10 ?_
  refine go_rngI (c := 23) (i := 6) (hL.1 23 _ rfl) rfl (fun (q2 : -2147483648 ≤ (D 23 6) ∧ (D 23 6) < 2147483648) => ?_)
  refine go_rngI (c := 23) (i := 5) (hL.1 23 _ rfl) rfl (fun (q3 : -2147483648 ≤ (D 23 5) ∧ (D 23 5) < 2147483648) => ?_)
  refine go_icmp_ge 68 dX6_scanNumber_13 (by decide) q2 q3 (fun c4 => ?_) (fun c4 => ?_)
  · have h := h.1 c4
    obtain ⟨s5, h⟩ := h
    refine go_aload_n 0 dX6_scanNumber_68 rfl rfl ?_
    refine go_aload_n 0 dX6_scanNumber_69 rfl rfl ?_
    refine go_getI 6 (i := 6) f_X6_35 rfl (hL.1 23 _ rfl) dX6_scanNumber_70 ?_
    refine go_aload_n 0 dX6_scanNumber_73 rfl rfl ?_
    refine go_getI 8 (i := 8) f_X6_41 rfl (hL.1 23 _ rfl) dX6_scanNumber_74 ?_
    refine go_isub dX6_scanNumber_77 ?_
    refine go_iconst dX6_scanNumber_78 ?_
    refine go_icmp_gt 86 dX6_scanNumber_79 (by decide) s5 (by decide) (fun c6 => ?_) (fun c6 => ?_)
    · have h := h.1 c6
      refine go_iconst dX6_scanNumber_86 ?_
      refine go_putI 7 (i := 7) (by decide) f_X6_38 rfl (hL.1 23 _ rfl) dX6_scanNumber_87 ?_
      exact go_return (Nat.le_refl _) (Nat.le_refl _) rfl dX6_scanNumber_90 h
    · have h := h.2 c6
      refine go_iconst dX6_scanNumber_82 ?_
      refine go_goto 87 dX6_scanNumber_83 (by decide) ?_
      refine go_putI 7 (i := 7) (by decide) f_X6_38 rfl (hL.1 23 _ rfl) dX6_scanNumber_87 ?_
      exact go_return (Nat.le_refl _) (Nat.le_refl _) rfl dX6_scanNumber_90 h
  · have h := h.2 c4
    obtain ⟨s9, h⟩ := h
    refine go_aload_n 0 dX6_scanNumber_16 rfl rfl ?_
    refine go_getR 0 f_X6_9 rfl (hL.1 23 _ rfl) (hL.2.1 23 0 _ rfl (by decide)) dX6_scanNumber_17 ?_
    refine go_aload_n 0 dX6_scanNumber_20 rfl rfl ?_
    refine go_getI 6 (i := 6) f_X6_35 rfl (hL.1 23 _ rfl) dX6_scanNumber_21 ?_
    refine go_baload (hL.1 24 _ rfl) (b := 600) rfl (by decide) s9 dX6_scanNumber_24 ?_
    refine go_rngI (c := 24) (i := (D 23 6)) (hL.1 24 _ rfl) rfl (fun (q11 : -2147483648 ≤ (D 24 (D 23 6)) ∧ (D 24 (D 23 6)) < 2147483648) => ?_)
    refine go_sIp (M := MX6_isDigit) [vI (D 24 (D 23 6))] [] ms_X6_210 ⟨Nat.le_of_ble_eq_true rfl, Nat.le_of_ble_eq_true rfl⟩ ⟨Nat.le_refl _, Nat.le_refl _⟩ rfl rfl (Nat.le_of_ble_eq_true rfl) dX6_scanNumber_25 (p_X6_isDigit hL q11) ?_
    refine go_ifb_eq 68 dX6_scanNumber_28 (by decide) (fun c12 => ?_) (fun c12 => ?_)
    · have h := h.1 c12
      obtain ⟨s13, h⟩ := h
      refine go_aload_n 0 dX6_scanNumber_68 rfl rfl ?_
      refine go_aload_n 0 dX6_scanNumber_69 rfl rfl ?_
      refine go_getI 6 (i := 6) f_X6_35 rfl (hL.1 23 _ rfl) dX6_scanNumber_70 ?_
      refine go_aload_n 0 dX6_scanNumber_73 rfl rfl ?_
      refine go_getI 8 (i := 8) f_X6_41 rfl (hL.1 23 _ rfl) dX6_scanNumber_74 ?_
      refine go_isub dX6_scanNumber_77 ?_
      refine go_iconst dX6_scanNumber_78 ?_
      refine go_icmp_gt 86 dX6_scanNumber_79 (by decide) s13 (by decide) (fun c14 => ?_) (fun c14 => ?_)
      · have h := h.1 c14
        refine go_iconst dX6_scanNumber_86 ?_
        refine go_putI 7 (i := 7) (by decide) f_X6_38 rfl (hL.1 23 _ rfl) dX6_scanNumber_87 ?_
        exact go_return (Nat.le_refl _) (Nat.le_refl _) rfl dX6_scanNumber_90 h
      · have h := h.2 c14
        refine go_iconst dX6_scanNumber_82 ?_
        refine go_goto 87 dX6_scanNumber_83 (by decide) ?_
        refine go_putI 7 (i := 7) (by decide) f_X6_38 rfl (hL.1 23 _ rfl) dX6_scanNumber_87 ?_
        exact go_return (Nat.le_refl _) (Nat.le_refl _) rfl dX6_scanNumber_90 h
    · have h := h.2 c12
      obtain ⟨s17, h⟩ := h
      refine go_aload_n 0 dX6_scanNumber_31 rfl rfl ?_
      refine go_aload_n 0 dX6_scanNumber_32 rfl rfl ?_
      refine go_getI 9 (i := 9) f_X6_44 rfl (hL.1 23 _ rfl) dX6_scanNumber_33 ?_
      refine go_bipush dX6_scanNumber_36 (by decide) ?_
      refine go_imul dX6_scanNumber_38 ?_
      refine go_aload_n 0 dX6_scanNumber_39 rfl rfl ?_
      refine go_getR 0 f_X6_9 rfl (hL.1 23 _ rfl) (hL.2.1 23 0 _ rfl (by decide)) dX6_scanNumber_40 ?_
      refine go_aload_n 0 dX6_scanNumber_43 rfl rfl ?_
      refine go_getI 6 (i := 6) f_X6_35 rfl (hL.1 23 _ rfl) dX6_scanNumber_44 ?_
      refine go_baload (hL.1 24 _ rfl) (b := 600) rfl (by decide) s9 dX6_scanNumber_47 ?_
      refine go_bipush dX6_scanNumber_48 (by decide) ?_
      refine go_isub dX6_scanNumber_50 ?_
      refine go_iadd dX6_scanNumber_51 ?_
      refine go_putI 9 (i := 9) s17.1 f_X6_44 rfl (hL.1 23 _ rfl) dX6_scanNumber_52 ?_
      refine go_aload_n 0 dX6_scanNumber_55 rfl rfl ?_
      refine go_dup rfl dX6_scanNumber_56 ?_
      refine go_getI 6 (i := 6) f_X6_35 rfl (hL.1 23 _ rfl) dX6_scanNumber_57 ?_
      refine go_iconst dX6_scanNumber_60 ?_
      refine go_iadd dX6_scanNumber_61 ?_
      refine go_putI 6 (i := 6) s17.2 f_X6_35 rfl (hL.1 23 _ rfl) dX6_scanNumber_62 ?_
      refine go_goto 5 dX6_scanNumber_65 (by decide) ?_
      exact h
theorem s_X6_step {l : Launch} {E : Ev} {Q : Int → Sh → Dm → Prop} {G : Sh} {D : Dm} (hL : Lay G)  (h : (((D 23 3) = 0 → KX6_step l E Q 8 [(0, vR E 23)] G D) ∧ ((D 23 3) ≠ 0 → Q 0 G D))) : Ct l E MX6_step 2 0 0 [vR E 23] G D Q := by
  refine Ct.of (by decide) (Nat.le_of_ble_eq_true rfl) ?_
  show KX6_step l E Q 0 [(0, vR E 23)] G D
  refine go_aload_n 0 dX6_step_0 rfl rfl ?_
  refine go_getI 3 (i := 3) f_X6_26 rfl (hL.1 23 _ rfl) dX6_step_1 ?_
  refine go_rngI (c := 23) (i := 3) (hL.1 23 _ rfl) rfl (fun (q2 : -2147483648 ≤ (D 23 3) ∧ (D 23 3) < 2147483648) => ?_)
  refine go_if_eq 8 dX6_step_4 (by decide) q2 (fun c3 => ?_) (fun c3 => ?_)
  · have h := h.1 c3
    exact h
  · have h := h.2 c3
    exact go_return (Nat.le_refl _) (Nat.le_refl _) rfl dX6_step_7 h
theorem s_X6_step_8 {l : Launch} {E : Ev} {Q : Int → Sh → Dm → Prop} {G : Sh} {D : Dm} (hL : Lay G)  (h : (((D 23 5) ≤ (D 23 6) → (((D 23 6) < (D 23 5) → ((0 ≤ (D 23 6) ∧ (D 23 6) < 600)) ∧ ((¬ ((97 ≤ (D 24 (D 23 6))) ∧ ((D 24 (D 23 6)) ≤ 122)) → ((¬ ((48 ≤ (D 24 (D 23 6))) ∧ ((D 24 (D 23 6)) ≤ 57)) → (((D 24 (D 23 6)) ≠ 59 → Q 0 G (upd2 (upd2 D 23 8 (D 23 6)) 23 7 4)) ∧ ((D 24 (D 23 6)) = 59 → ((-2147483648 ≤ ((D 23 6) + 1) ∧ ((D 23 6) + 1) < 2147483648)) ∧ Q 0 G (upd2 (upd2 (upd2 D 23 8 (D 23 6)) 23 7 3) 23 6 ((D 23 6) + 1))))) ∧ (((48 ≤ (D 24 (D 23 6))) ∧ ((D 24 (D 23 6)) ≤ 57)) → C0 l E MX6_scanNumber 2 [vR E 23] G (upd2 D 23 8 (D 23 6)) (fun r19 D19 => Q 0 G D19)))) ∧ (((97 ≤ (D 24 (D 23 6))) ∧ ((D 24 (D 23 6)) ≤ 122)) → C0 l E MX6_scanWord 2 [vR E 23] G (upd2 D 23 8 (D 23 6)) (fun r22 D22 => Q 0 G D22)))) ∧ ((D 23 5) ≤ (D 23 6) → Q 0 G (upd2 (upd2 D 23 8 (D 23 6)) 23 7 0)))) ∧ ((D 23 6) < (D 23 5) → ((0 ≤ (D 23 6) ∧ (D 23 6) < 600)) ∧ (((D 24 (D 23 6)) = 10 → ((-2147483648 ≤ ((D 23 6) + 1) ∧ ((D 23 6) + 1) < 2147483648)) ∧ KX6_step l E Q 8 [(0, vR E 23)] G (upd2 D 23 6 ((D 23 6) + 1))) ∧ ((D 24 (D 23 6)) ≠ 10 → (((D 24 (D 23 6)) ≠ 32 → (((D 23 6) < (D 23 5) → ((¬ ((97 ≤ (D 24 (D 23 6))) ∧ ((D 24 (D 23 6)) ≤ 122)) → ((¬ ((48 ≤ (D 24 (D 23 6))) ∧ ((D 24 (D 23 6)) ≤ 57)) → (((D 24 (D 23 6)) ≠ 59 → Q 0 G (upd2 (upd2 D 23 8 (D 23 6)) 23 7 4)) ∧ ((D 24 (D 23 6)) = 59 → ((-2147483648 ≤ ((D 23 6) + 1) ∧ ((D 23 6) + 1) < 2147483648)) ∧ Q 0 G (upd2 (upd2 (upd2 D 23 8 (D 23 6)) 23 7 3) 23 6 ((D 23 6) + 1))))) ∧ (((48 ≤ (D 24 (D 23 6))) ∧ ((D 24 (D 23 6)) ≤ 57)) → C0 l E MX6_scanNumber 2 [vR E 23] G (upd2 D 23 8 (D 23 6)) (fun r44 D44 => Q 0 G D44)))) ∧ (((97 ≤ (D 24 (D 23 6))) ∧ ((D 24 (D 23 6)) ≤ 122)) → C0 l E MX6_scanWord 2 [vR E 23] G (upd2 D 23 8 (D 23 6)) (fun r47 D47 => Q 0 G D47)))) ∧ ((D 23 5) ≤ (D 23 6) → Q 0 G (upd2 (upd2 D 23 8 (D 23 6)) 23 7 0)))) ∧ ((D 24 (D 23 6)) = 32 → ((-2147483648 ≤ ((D 23 6) + 1) ∧ ((D 23 6) + 1) < 2147483648)) ∧ KX6_step l E Q 8 [(0, vR E 23)] G (upd2 D 23 6 ((D 23 6) + 1))))))))) : KX6_step l E Q 8 [(0, vR E 23)] G D := by
  refine go_aload_n 0 dX6_step_8 rfl rfl ?_
  refine go_getI 6 (i := 6) f_X6_35 rfl (hL.1 23 _ rfl) dX6_step_9 ?_
  refine go_aload_n 0 dX6_step_12 rfl rfl ?_
  refine go_getI 5 (i := 5) f_X6_32 rfl (hL.1 23 _ rfl) dX6_step_13 ?_
  refine go_rngI (c := 23) (i := 6) (hL.1 23 _ rfl) rfl (fun (q2 : -2147483648 ≤ (D 23 6) ∧ (D 23 6) < 2147483648) => ?_)
  refine go_rngI (c := 23) (i := 5) (hL.1 23 _ rfl) rfl (fun (q3 : -2147483648 ≤ (D 23 5) ∧ (D 23 5) < 2147483648) => ?_)
  refine go_icmp_ge 60 dX6_step_16 (by decide) q2 q3 (fun c4 => ?_) (fun c4 => ?_)
  · have h := h.1 c4
    refine go_aload_n 0 dX6_step_60 rfl rfl ?_
    refine go_aload_n 0 dX6_step_61 rfl rfl ?_
    refine go_getI 6 (i := 6) f_X6_35 rfl (hL.1 23 _ rfl) dX6_step_62 ?_
    refine go_putI 8 (i := 8) q2 f_X6_41 rfl (hL.1 23 _ rfl) dX6_step_65 ?_
    refine go_aload_n 0 dX6_step_68 rfl rfl ?_
    refine go_getI 6 (i := 6) f_X6_35 rfl (hL.1 23 _ rfl) dX6_step_69 ?_
    refine go_aload_n 0 dX6_step_72 rfl rfl ?_
    refine go_getI 5 (i := 5) f_X6_32 rfl (hL.1 23 _ rfl) dX6_step_73 ?_
    refine go_icmp_lt 87 dX6_step_76 (by decide) q2 q3 (fun c6 => ?_) (fun c6 => ?_)
    · have h := h.1 c6
      obtain ⟨s7, h⟩ := h
      refine go_aload_n 0 dX6_step_87 rfl rfl ?_
      refine go_getR 0 f_X6_9 rfl (hL.1 23 _ rfl) (hL.2.1 23 0 _ rfl (by decide)) dX6_step_88 ?_
      refine go_aload_n 0 dX6_step_91 rfl rfl ?_
      refine go_getI 6 (i := 6) f_X6_35 rfl (hL.1 23 _ rfl) dX6_step_92 ?_
      refine go_baload (hL.1 24 _ rfl) (b := 600) rfl (by decide) s7 dX6_step_95 ?_
      refine go_rngI (c := 24) (i := (D 23 6)) (hL.1 24 _ rfl) rfl (fun (q9 : -2147483648 ≤ (D 24 (D 23 6)) ∧ (D 24 (D 23 6)) < 2147483648) => ?_)
      refine go_sIp (M := MX6_isLetter) [vI (D 24 (D 23 6))] [] ms_X6_203 ⟨Nat.le_of_ble_eq_true rfl, Nat.le_of_ble_eq_true rfl⟩ ⟨Nat.le_refl _, Nat.le_refl _⟩ rfl rfl (Nat.le_of_ble_eq_true rfl) dX6_step_96 (p_X6_isLetter hL q9) ?_
      refine go_ifb_eq 109 dX6_step_99 (by decide) (fun c10 => ?_) (fun c10 => ?_)
      · have h := h.1 c10
        refine go_aload_n 0 dX6_step_109 rfl rfl ?_
        refine go_getR 0 f_X6_9 rfl (hL.1 23 _ rfl) (hL.2.1 23 0 _ rfl (by decide)) dX6_step_110 ?_
        refine go_aload_n 0 dX6_step_113 rfl rfl ?_
        refine go_getI 6 (i := 6) f_X6_35 rfl (hL.1 23 _ rfl) dX6_step_114 ?_
        refine go_baload (hL.1 24 _ rfl) (b := 600) rfl (by decide) s7 dX6_step_117 ?_
        refine go_sIp (M := MX6_isDigit) [vI (D 24 (D 23 6))] [] ms_X6_210 ⟨Nat.le_of_ble_eq_true rfl, Nat.le_of_ble_eq_true rfl⟩ ⟨Nat.le_refl _, Nat.le_refl _⟩ rfl rfl (Nat.le_of_ble_eq_true rfl) dX6_step_118 (p_X6_isDigit hL q9) ?_
        refine go_ifb_eq 131 dX6_step_121 (by decide) (fun c13 => ?_) (fun c13 => ?_)
        · have h := h.1 c13
          refine go_aload_n 0 dX6_step_131 rfl rfl ?_
          refine go_getR 0 f_X6_9 rfl (hL.1 23 _ rfl) (hL.2.1 23 0 _ rfl (by decide)) dX6_step_132 ?_
          refine go_aload_n 0 dX6_step_135 rfl rfl ?_
          refine go_getI 6 (i := 6) f_X6_35 rfl (hL.1 23 _ rfl) dX6_step_136 ?_
          refine go_baload (hL.1 24 _ rfl) (b := 600) rfl (by decide) s7 dX6_step_139 ?_
          refine go_bipush dX6_step_140 (by decide) ?_
          refine go_icmp_ne 163 dX6_step_142 (by decide) q9 (by decide) (fun c15 => ?_) (fun c15 => ?_)
          · have h := h.1 c15
            refine go_aload_n 0 dX6_step_163 rfl rfl ?_
            refine go_iconst dX6_step_164 ?_
            refine go_putI 7 (i := 7) (by decide) f_X6_38 rfl (hL.1 23 _ rfl) dX6_step_165 ?_
            exact go_return (Nat.le_refl _) (Nat.le_refl _) rfl dX6_step_168 h
          · have h := h.2 c15
            obtain ⟨s17, h⟩ := h
            refine go_aload_n 0 dX6_step_145 rfl rfl ?_
            refine go_iconst dX6_step_146 ?_
            refine go_putI 7 (i := 7) (by decide) f_X6_38 rfl (hL.1 23 _ rfl) dX6_step_147 ?_
            refine go_aload_n 0 dX6_step_150 rfl rfl ?_
            refine go_dup rfl dX6_step_151 ?_
            refine go_getI 6 (i := 6) f_X6_35 rfl (hL.1 23 _ rfl) dX6_step_152 ?_
            refine go_iconst dX6_step_155 ?_
            refine go_iadd dX6_step_156 ?_
            refine go_putI 6 (i := 6) s17 f_X6_35 rfl (hL.1 23 _ rfl) dX6_step_157 ?_
            refine go_goto 168 dX6_step_160 (by decide) ?_
            exact go_return (Nat.le_refl _) (Nat.le_refl _) rfl dX6_step_168 h
        · have h := h.2 c13
          refine go_aload_n 0 dX6_step_124 rfl rfl ?_
          refine go_vV (M := MX6_scanNumber) [] [] mv_X6_213 (hL.1 23 _ rfl) rfl (by decide) ⟨Nat.le_of_ble_eq_true rfl, Nat.le_of_ble_eq_true rfl⟩ ⟨Nat.le_refl _, Nat.le_refl _⟩ rfl rfl (Nat.le_of_ble_eq_true rfl) dX6_step_125 h (fun r19 D19 h => ?_)
          refine go_goto 168 dX6_step_128 (by decide) ?_
          exact go_return (Nat.le_refl _) (Nat.le_refl _) rfl dX6_step_168 h
      · have h := h.2 c10
        refine go_aload_n 0 dX6_step_102 rfl rfl ?_
        refine go_vV (M := MX6_scanWord) [] [] mv_X6_207 (hL.1 23 _ rfl) rfl (by decide) ⟨Nat.le_of_ble_eq_true rfl, Nat.le_of_ble_eq_true rfl⟩ ⟨Nat.le_refl _, Nat.le_refl _⟩ rfl rfl (Nat.le_of_ble_eq_true rfl) dX6_step_103 h (fun r22 D22 h => ?_)
        refine go_goto 168 dX6_step_106 (by decide) ?_
        exact go_return (Nat.le_refl _) (Nat.le_refl _) rfl dX6_step_168 h
    · have h := h.2 c6
      refine go_aload_n 0 dX6_step_79 rfl rfl ?_
      refine go_iconst dX6_step_80 ?_
      refine go_putI 7 (i := 7) (by decide) f_X6_38 rfl (hL.1 23 _ rfl) dX6_step_81 ?_
      refine go_goto 168 dX6_step_84 (by decide) ?_
      exact go_return (Nat.le_refl _) (Nat.le_refl _) rfl dX6_step_168 h
  · have h := h.2 c4
    obtain ⟨s25, h⟩ := h
    refine go_aload_n 0 dX6_step_19 rfl rfl ?_
    refine go_getR 0 f_X6_9 rfl (hL.1 23 _ rfl) (hL.2.1 23 0 _ rfl (by decide)) dX6_step_20 ?_
    refine go_aload_n 0 dX6_step_23 rfl rfl ?_
    refine go_getI 6 (i := 6) f_X6_35 rfl (hL.1 23 _ rfl) dX6_step_24 ?_
    refine go_baload (hL.1 24 _ rfl) (b := 600) rfl (by decide) s25 dX6_step_27 ?_
    refine go_bipush dX6_step_28 (by decide) ?_
    refine go_rngI (c := 24) (i := (D 23 6)) (hL.1 24 _ rfl) rfl (fun (q26 : -2147483648 ≤ (D 24 (D 23 6)) ∧ (D 24 (D 23 6)) < 2147483648) => ?_)
    refine go_icmp_eq 47 dX6_step_30 (by decide) q26 (by decide) (fun c27 => ?_) (fun c27 => ?_)
    · have h := h.1 c27
      obtain ⟨s28, h⟩ := h
      refine go_aload_n 0 dX6_step_47 rfl rfl ?_
      refine go_dup rfl dX6_step_48 ?_
      refine go_getI 6 (i := 6) f_X6_35 rfl (hL.1 23 _ rfl) dX6_step_49 ?_
      refine go_iconst dX6_step_52 ?_
      refine go_iadd dX6_step_53 ?_
      refine go_putI 6 (i := 6) s28 f_X6_35 rfl (hL.1 23 _ rfl) dX6_step_54 ?_
      refine go_goto 8 dX6_step_57 (by decide) ?_
      exact h
    · have h := h.2 c27
      refine go_aload_n 0 dX6_step_33 rfl rfl ?_
      refine go_getR 0 f_X6_9 rfl (hL.1 23 _ rfl) (hL.2.1 23 0 _ rfl (by decide)) dX6_step_34 ?_
      refine go_aload_n 0 dX6_step_37 rfl rfl ?_
      refine go_getI 6 (i := 6) f_X6_35 rfl (hL.1 23 _ rfl) dX6_step_38 ?_
      refine go_baload (hL.1 24 _ rfl) (b := 600) rfl (by decide) s25 dX6_step_41 ?_
      refine go_bipush dX6_step_42 (by decide) ?_
      refine go_icmp_ne 60 dX6_step_44 (by decide) q26 (by decide) (fun c30 => ?_) (fun c30 => ?_)
      · have h := h.1 c30
        refine go_aload_n 0 dX6_step_60 rfl rfl ?_
        refine go_aload_n 0 dX6_step_61 rfl rfl ?_
        refine go_getI 6 (i := 6) f_X6_35 rfl (hL.1 23 _ rfl) dX6_step_62 ?_
        refine go_putI 8 (i := 8) q2 f_X6_41 rfl (hL.1 23 _ rfl) dX6_step_65 ?_
        refine go_aload_n 0 dX6_step_68 rfl rfl ?_
        refine go_getI 6 (i := 6) f_X6_35 rfl (hL.1 23 _ rfl) dX6_step_69 ?_
        refine go_aload_n 0 dX6_step_72 rfl rfl ?_
        refine go_getI 5 (i := 5) f_X6_32 rfl (hL.1 23 _ rfl) dX6_step_73 ?_
        refine go_icmp_lt 87 dX6_step_76 (by decide) q2 q3 (fun c32 => ?_) (fun c32 => ?_)
        · have h := h.1 c32
          refine go_aload_n 0 dX6_step_87 rfl rfl ?_
          refine go_getR 0 f_X6_9 rfl (hL.1 23 _ rfl) (hL.2.1 23 0 _ rfl (by decide)) dX6_step_88 ?_
          refine go_aload_n 0 dX6_step_91 rfl rfl ?_
          refine go_getI 6 (i := 6) f_X6_35 rfl (hL.1 23 _ rfl) dX6_step_92 ?_
          refine go_baload (hL.1 24 _ rfl) (b := 600) rfl (by decide) s25 dX6_step_95 ?_
          refine go_sIp (M := MX6_isLetter) [vI (D 24 (D 23 6))] [] ms_X6_203 ⟨Nat.le_of_ble_eq_true rfl, Nat.le_of_ble_eq_true rfl⟩ ⟨Nat.le_refl _, Nat.le_refl _⟩ rfl rfl (Nat.le_of_ble_eq_true rfl) dX6_step_96 (p_X6_isLetter hL q26) ?_
          refine go_ifb_eq 109 dX6_step_99 (by decide) (fun c35 => ?_) (fun c35 => ?_)
          · have h := h.1 c35
            refine go_aload_n 0 dX6_step_109 rfl rfl ?_
            refine go_getR 0 f_X6_9 rfl (hL.1 23 _ rfl) (hL.2.1 23 0 _ rfl (by decide)) dX6_step_110 ?_
            refine go_aload_n 0 dX6_step_113 rfl rfl ?_
            refine go_getI 6 (i := 6) f_X6_35 rfl (hL.1 23 _ rfl) dX6_step_114 ?_
            refine go_baload (hL.1 24 _ rfl) (b := 600) rfl (by decide) s25 dX6_step_117 ?_
            refine go_sIp (M := MX6_isDigit) [vI (D 24 (D 23 6))] [] ms_X6_210 ⟨Nat.le_of_ble_eq_true rfl, Nat.le_of_ble_eq_true rfl⟩ ⟨Nat.le_refl _, Nat.le_refl _⟩ rfl rfl (Nat.le_of_ble_eq_true rfl) dX6_step_118 (p_X6_isDigit hL q26) ?_
            refine go_ifb_eq 131 dX6_step_121 (by decide) (fun c38 => ?_) (fun c38 => ?_)
            · have h := h.1 c38
              refine go_aload_n 0 dX6_step_131 rfl rfl ?_
              refine go_getR 0 f_X6_9 rfl (hL.1 23 _ rfl) (hL.2.1 23 0 _ rfl (by decide)) dX6_step_132 ?_
              refine go_aload_n 0 dX6_step_135 rfl rfl ?_
              refine go_getI 6 (i := 6) f_X6_35 rfl (hL.1 23 _ rfl) dX6_step_136 ?_
              refine go_baload (hL.1 24 _ rfl) (b := 600) rfl (by decide) s25 dX6_step_139 ?_
              refine go_bipush dX6_step_140 (by decide) ?_
              refine go_icmp_ne 163 dX6_step_142 (by decide) q26 (by decide) (fun c40 => ?_) (fun c40 => ?_)
              · have h := h.1 c40
                refine go_aload_n 0 dX6_step_163 rfl rfl ?_
                refine go_iconst dX6_step_164 ?_
                refine go_putI 7 (i := 7) (by decide) f_X6_38 rfl (hL.1 23 _ rfl) dX6_step_165 ?_
                exact go_return (Nat.le_refl _) (Nat.le_refl _) rfl dX6_step_168 h
              · have h := h.2 c40
                obtain ⟨s42, h⟩ := h
                refine go_aload_n 0 dX6_step_145 rfl rfl ?_
                refine go_iconst dX6_step_146 ?_
                refine go_putI 7 (i := 7) (by decide) f_X6_38 rfl (hL.1 23 _ rfl) dX6_step_147 ?_
                refine go_aload_n 0 dX6_step_150 rfl rfl ?_
                refine go_dup rfl dX6_step_151 ?_
                refine go_getI 6 (i := 6) f_X6_35 rfl (hL.1 23 _ rfl) dX6_step_152 ?_
                refine go_iconst dX6_step_155 ?_
                refine go_iadd dX6_step_156 ?_
                refine go_putI 6 (i := 6) s42 f_X6_35 rfl (hL.1 23 _ rfl) dX6_step_157 ?_
                refine go_goto 168 dX6_step_160 (by decide) ?_
                exact go_return (Nat.le_refl _) (Nat.le_refl _) rfl dX6_step_168 h
            · have h := h.2 c38
              refine go_aload_n 0 dX6_step_124 rfl rfl ?_
              refine go_vV (M := MX6_scanNumber) [] [] mv_X6_213 (hL.1 23 _ rfl) rfl (by decide) ⟨Nat.le_of_ble_eq_true rfl, Nat.le_of_ble_eq_true rfl⟩ ⟨Nat.le_refl _, Nat.le_refl _⟩ rfl rfl (Nat.le_of_ble_eq_true rfl) dX6_step_125 h (fun r44 D44 h => ?_)
              refine go_goto 168 dX6_step_128 (by decide) ?_
              exact go_return (Nat.le_refl _) (Nat.le_refl _) rfl dX6_step_168 h
          · have h := h.2 c35
            refine go_aload_n 0 dX6_step_102 rfl rfl ?_
            refine go_vV (M := MX6_scanWord) [] [] mv_X6_207 (hL.1 23 _ rfl) rfl (by decide) ⟨Nat.le_of_ble_eq_true rfl, Nat.le_of_ble_eq_true rfl⟩ ⟨Nat.le_refl _, Nat.le_refl _⟩ rfl rfl (Nat.le_of_ble_eq_true rfl) dX6_step_103 h (fun r47 D47 h => ?_)
            refine go_goto 168 dX6_step_106 (by decide) ?_
            exact go_return (Nat.le_refl _) (Nat.le_refl _) rfl dX6_step_168 h
        · have h := h.2 c32
          refine go_aload_n 0 dX6_step_79 rfl rfl ?_
          refine go_iconst dX6_step_80 ?_
          refine go_putI 7 (i := 7) (by decide) f_X6_38 rfl (hL.1 23 _ rfl) dX6_step_81 ?_
          refine go_goto 168 dX6_step_84 (by decide) ?_
          exact go_return (Nat.le_refl _) (Nat.le_refl _) rfl dX6_step_168 h
      · have h := h.2 c30
        obtain ⟨s50, h⟩ := h
        refine go_aload_n 0 dX6_step_47 rfl rfl ?_
        refine go_dup rfl dX6_step_48 ?_
        refine go_getI 6 (i := 6) f_X6_35 rfl (hL.1 23 _ rfl) dX6_step_49 ?_
        refine go_iconst dX6_step_52 ?_
        refine go_iadd dX6_step_53 ?_
        refine go_putI 6 (i := 6) s50 f_X6_35 rfl (hL.1 23 _ rfl) dX6_step_54 ?_
        refine go_goto 8 dX6_step_57 (by decide) ?_
        exact h
theorem s_X6_sees {l : Launch} {E : Ev} {Q : Int → Sh → Dm → Prop} {G : Sh} {D : Dm} (hL : Lay G) {v1 : Int}  (h : (((D 23 3) ≠ 0 → Q 0 G D) ∧ ((D 23 3) = 0 → (((D 23 7) ≠ 1 → Q 0 G D) ∧ ((D 23 7) = 1 → ((-9223372036854775808 ≤ v1 ∧ v1 < 9223372036854775808)) ∧ (((D 23 10) ≠ v1 → Q 0 G D) ∧ ((D 23 10) = v1 → Q 1 G D))))))) : Ct l E MX6_sees 0 0 0 [vR E 23, vJ v1] G D Q := by
  refine Ct.of (by decide) (Nat.le_of_ble_eq_true rfl) ?_
  show KX6_sees l E Q 0 [(0, vR E 23), (1, vJ v1)] G D
  refine go_aload_n 0 dX6_sees_0 rfl rfl ?_
  refine go_getI 3 (i := 3) f_X6_26 rfl (hL.1 23 _ rfl) dX6_sees_1 ?_
  refine go_rngI (c := 23) (i := 3) (hL.1 23 _ rfl) rfl (fun (q2 : -2147483648 ≤ (D 23 3) ∧ (D 23 3) < 2147483648) => ?_)
  refine go_if_ne 28 dX6_sees_4 (by decide) q2 (fun c3 => ?_) (fun c3 => ?_)
  · have h := h.1 c3
    refine go_iconst dX6_sees_28 ?_
    exact go_zreturn (Nat.le_refl _) (Nat.le_refl _) rfl (by decide) dX6_sees_29 h
  · have h := h.2 c3
    refine go_aload_n 0 dX6_sees_7 rfl rfl ?_
    refine go_getI 7 (i := 7) f_X6_38 rfl (hL.1 23 _ rfl) dX6_sees_8 ?_
    refine go_iconst dX6_sees_11 ?_
    refine go_rngI (c := 23) (i := 7) (hL.1 23 _ rfl) rfl (fun (q6 : -2147483648 ≤ (D 23 7) ∧ (D 23 7) < 2147483648) => ?_)
    refine go_icmp_ne 28 dX6_sees_12 (by decide) q6 (by decide) (fun c7 => ?_) (fun c7 => ?_)
    · have h := h.1 c7
      refine go_iconst dX6_sees_28 ?_
      exact go_zreturn (Nat.le_refl _) (Nat.le_refl _) rfl (by decide) dX6_sees_29 h
    · have h := h.2 c7
      obtain ⟨s9, h⟩ := h
      refine go_aload_n 0 dX6_sees_15 rfl rfl ?_
      refine go_getJ 10 (i := 10) f_X6_47 rfl (hL.1 23 _ rfl) dX6_sees_16 ?_
      refine go_lload_n 1 dX6_sees_19 rfl rfl ?_
      refine go_rngJ (c := 23) (i := 10) (hL.1 23 _ rfl) rfl (fun (q10 : -9223372036854775808 ≤ (D 23 10) ∧ (D 23 10) < 9223372036854775808) => ?_)
      refine go_lcmp_ne 28 dX6_sees_20 dX6_sees_21 (by decide) q10 s9 (fun c11 => ?_) (fun c11 => ?_)
      · have h := h.1 c11
        refine go_iconst dX6_sees_28 ?_
        exact go_zreturn (Nat.le_refl _) (Nat.le_refl _) rfl (by decide) dX6_sees_29 h
      · have h := h.2 c11
        refine go_iconst dX6_sees_24 ?_
        refine go_goto 29 dX6_sees_25 (by decide) ?_
        exact go_zreturn (Nat.le_refl _) (Nat.le_refl _) rfl (by decide) dX6_sees_29 h
theorem p_X6_sees {l : Launch} {E : Ev} {G : Sh} {D : Dm} (hL : Lay G) {v1 : Int}  (q0 : -9223372036854775808 ≤ v1 ∧ v1 < 9223372036854775808) : C0 l E MX6_sees 0 [vR E 23, vJ v1] G D (fun r D' => r = (if (((D 23 3) = 0) ∧ (((D 23 7) = 1) ∧ ((D 23 10) = v1))) then 1 else 0) ∧ D' = D) := by
  refine s_X6_sees hL ?_
  refine ⟨fun hc => ?_, fun hc => ?_⟩
  · refine ⟨rfl, ?_, rfl⟩
    (split <;> first | rfl | (exfalso; simp_all; done) | omega | simp_all)
  · refine ⟨fun hc => ?_, fun hc => ?_⟩
    · refine ⟨rfl, ?_, rfl⟩
      (split <;> first | rfl | (exfalso; simp_all; done) | omega | simp_all)
    · refine ⟨q0, ?_⟩
      refine ⟨fun hc => ?_, fun hc => ?_⟩
      · refine ⟨rfl, ?_, rfl⟩
        (split <;> first | rfl | (exfalso; simp_all; done) | omega | simp_all)
      · refine ⟨rfl, ?_, rfl⟩
        (split <;> first | rfl | (exfalso; simp_all; done) | omega | simp_all)
theorem s_X6_stop {l : Launch} {E : Ev} {Q : Int → Sh → Dm → Prop} {G : Sh} {D : Dm} (hL : Lay G) {v1 : Int}  (h : (((D 23 3) ≠ 0 → Q 0 G D) ∧ ((D 23 3) = 0 → (((D 23 7) ≠ 4 → ((-2147483648 ≤ v1 ∧ v1 < 2147483648)) ∧ Q 0 G (upd2 (upd2 D 23 3 v1) 23 4 (D 23 8))) ∧ ((D 23 7) = 4 → Q 0 G (upd2 (upd2 D 23 3 1) 23 4 (D 23 8))))))) : Ct l E MX6_stop 2 0 0 [vR E 23, vI v1] G D Q := by
  refine Ct.of (by decide) (Nat.le_of_ble_eq_true rfl) ?_
  show KX6_stop l E Q 0 [(0, vR E 23), (1, vI v1)] G D
  refine go_aload_n 0 dX6_stop_0 rfl rfl ?_
  refine go_getI 3 (i := 3) f_X6_26 rfl (hL.1 23 _ rfl) dX6_stop_1 ?_
  refine go_rngI (c := 23) (i := 3) (hL.1 23 _ rfl) rfl (fun (q2 : -2147483648 ≤ (D 23 3) ∧ (D 23 3) < 2147483648) => ?_)
  refine go_if_ne 32 dX6_stop_4 (by decide) q2 (fun c3 => ?_) (fun c3 => ?_)
  · have h := h.1 c3
    exact go_return (Nat.le_refl _) (Nat.le_refl _) rfl dX6_stop_32 h
  · have h := h.2 c3
    refine go_aload_n 0 dX6_stop_7 rfl rfl ?_
    refine go_aload_n 0 dX6_stop_8 rfl rfl ?_
    refine go_getI 7 (i := 7) f_X6_38 rfl (hL.1 23 _ rfl) dX6_stop_9 ?_
    refine go_iconst dX6_stop_12 ?_
    refine go_rngI (c := 23) (i := 7) (hL.1 23 _ rfl) rfl (fun (q6 : -2147483648 ≤ (D 23 7) ∧ (D 23 7) < 2147483648) => ?_)
    refine go_icmp_ne 20 dX6_stop_13 (by decide) q6 (by decide) (fun c7 => ?_) (fun c7 => ?_)
    · have h := h.1 c7
      obtain ⟨s8, h⟩ := h
      refine go_iload_n 1 dX6_stop_20 rfl rfl ?_
      refine go_putI 3 (i := 3) s8 f_X6_26 rfl (hL.1 23 _ rfl) dX6_stop_21 ?_
      refine go_aload_n 0 dX6_stop_24 rfl rfl ?_
      refine go_aload_n 0 dX6_stop_25 rfl rfl ?_
      refine go_getI 8 (i := 8) f_X6_41 rfl (hL.1 23 _ rfl) dX6_stop_26 ?_
      refine go_rngI (c := 23) (i := 8) (hL.1 23 _ rfl) rfl (fun (q9 : -2147483648 ≤ (D 23 8) ∧ (D 23 8) < 2147483648) => ?_)
      refine go_putI 4 (i := 4) q9 f_X6_29 rfl (hL.1 23 _ rfl) dX6_stop_29 ?_
      exact go_return (Nat.le_refl _) (Nat.le_refl _) rfl dX6_stop_32 h
    · have h := h.2 c7
      refine go_iconst dX6_stop_16 ?_
      refine go_goto 21 dX6_stop_17 (by decide) ?_
      refine go_putI 3 (i := 3) (by decide) f_X6_26 rfl (hL.1 23 _ rfl) dX6_stop_21 ?_
      refine go_aload_n 0 dX6_stop_24 rfl rfl ?_
      refine go_aload_n 0 dX6_stop_25 rfl rfl ?_
      refine go_getI 8 (i := 8) f_X6_41 rfl (hL.1 23 _ rfl) dX6_stop_26 ?_
      refine go_rngI (c := 23) (i := 8) (hL.1 23 _ rfl) rfl (fun (q11 : -2147483648 ≤ (D 23 8) ∧ (D 23 8) < 2147483648) => ?_)
      refine go_putI 4 (i := 4) q11 f_X6_29 rfl (hL.1 23 _ rfl) dX6_stop_29 ?_
      exact go_return (Nat.le_refl _) (Nat.le_refl _) rfl dX6_stop_32 h
theorem s_X6_indexOfWords {l : Launch} {E : Ev} {Q : Int → Sh → Dm → Prop} {G : Sh} {D : Dm} (hL : Lay G) {v2 : Int}  (h : KX6_indexOfWord l E Q 2 [(0, vR E 23), (1, vR E 38), (2, vI v2), (3, vI 0)] G D) : Ct l E MX6_indexOfWord 0 0 0 [vR E 23, vR E 38, vI v2] G D Q := by
  refine Ct.of (by decide) (Nat.le_of_ble_eq_true rfl) ?_
  show KX6_indexOfWord l E Q 0 [(0, vR E 23), (1, vR E 38), (2, vI v2)] G D
  refine go_iconst dX6_indexOfWord_0 ?_
  refine go_istore_n [1, 2, 3, 0] (L' := [(0, vR E 23), (1, vR E 38), (2, vI v2), (3, vI 0)]) dX6_indexOfWord_1 rfl (by decide) rfl ?_
  exact h
theorem s_X6_indexOfWords_2 {l : Launch} {E : Ev} {Q : Int → Sh → Dm → Prop} {G : Sh} {D : Dm} (hL : Lay G) {v2 v3 : Int}  (h : ((-2147483648 ≤ v3 ∧ v3 < 2147483648) ∧ (-2147483648 ≤ v2 ∧ v2 < 2147483648)) ∧ ((v2 ≤ v3 → Q (-1) G D) ∧ (v3 < v2 → ((10 ≤ v3 → Q (-1) G D) ∧ (v3 < 10 → ((0 ≤ v3 ∧ v3 < 10)) ∧ (((D 38 v3) ≠ (D 23 10) → KX6_indexOfWord l E Q 2 [(0, vR E 23), (1, vR E 38), (2, vI v2), (3, vI (v3 + 1))] G D) ∧ ((D 38 v3) = (D 23 10) → Q v3 G D))))))) : KX6_indexOfWord l E Q 2 [(0, vR E 23), (1, vR E 38), (2, vI v2), (3, vI v3)] G D := by
  obtain ⟨s1, h⟩ := h
  refine go_iload_n 3 dX6_indexOfWord_2 rfl rfl ?_
  refine go_iload_n 2 dX6_indexOfWord_3 rfl rfl ?_
  refine go_icmp_ge 32 dX6_indexOfWord_4 (by decide) s1.1 s1.2 (fun c2 => ?_) (fun c2 => ?_)
  · have h := h.1 c2
    refine go_iconst dX6_indexOfWord_32 ?_
    exact go_ireturn (Nat.le_refl _) (Nat.le_refl _) rfl dX6_indexOfWord_33 h
  · have h := h.2 c2
    refine go_iload_n 3 dX6_indexOfWord_7 rfl rfl ?_
    refine go_aload_n 1 dX6_indexOfWord_8 rfl rfl ?_
    refine go_alen 1 (hL.1 38 _ rfl) (by decide) rfl (b := 10) rfl dX6_indexOfWord_9 ?_
    refine go_icmp_ge 32 dX6_indexOfWord_10 (by decide) s1.1 (by decide) (fun c5 => ?_) (fun c5 => ?_)
    · have h := h.1 c5
      refine go_iconst dX6_indexOfWord_32 ?_
      exact go_ireturn (Nat.le_refl _) (Nat.le_refl _) rfl dX6_indexOfWord_33 h
    · have h := h.2 c5
      obtain ⟨s7, h⟩ := h
      refine go_aload_n 1 dX6_indexOfWord_13 rfl rfl ?_
      refine go_iload_n 3 dX6_indexOfWord_14 rfl rfl ?_
      refine go_laload (hL.1 38 _ rfl) (b := 10) rfl (by decide) s7 dX6_indexOfWord_15 ?_
      refine go_aload_n 0 dX6_indexOfWord_16 rfl rfl ?_
      refine go_getJ 10 (i := 10) f_X6_47 rfl (hL.1 23 _ rfl) dX6_indexOfWord_17 ?_
      refine go_rngJ (c := 38) (i := v3) (hL.1 38 _ rfl) rfl (fun (q8 : -9223372036854775808 ≤ (D 38 v3) ∧ (D 38 v3) < 9223372036854775808) => ?_)
      refine go_rngJ (c := 23) (i := 10) (hL.1 23 _ rfl) rfl (fun (q9 : -9223372036854775808 ≤ (D 23 10) ∧ (D 23 10) < 9223372036854775808) => ?_)
      refine go_lcmp_ne 26 dX6_indexOfWord_20 dX6_indexOfWord_21 (by decide) q8 q9 (fun c10 => ?_) (fun c10 => ?_)
      · have h := h.1 c10
        refine go_iinc 3 [1, 2, 3, 0] (L' := [(0, vR E 23), (1, vR E 38), (2, vI v2), (3, vI (v3 + 1))]) dX6_indexOfWord_26 (by decide) rfl rfl ?_
        refine go_goto 2 dX6_indexOfWord_29 (by decide) ?_
        exact h
      · have h := h.2 c10
        refine go_iload_n 3 dX6_indexOfWord_24 rfl rfl ?_
        exact go_ireturn (Nat.le_refl _) (Nat.le_refl _) rfl dX6_indexOfWord_25 h
theorem s_X6_indexOfWordf {l : Launch} {E : Ev} {Q : Int → Sh → Dm → Prop} {G : Sh} {D : Dm} (hL : Lay G) {v2 : Int}  (h : KX6_indexOfWord l E Q 2 [(0, vR E 23), (1, vR E 39), (2, vI v2), (3, vI 0)] G D) : Ct l E MX6_indexOfWord 0 0 0 [vR E 23, vR E 39, vI v2] G D Q := by
  refine Ct.of (by decide) (Nat.le_of_ble_eq_true rfl) ?_
  show KX6_indexOfWord l E Q 0 [(0, vR E 23), (1, vR E 39), (2, vI v2)] G D
  refine go_iconst dX6_indexOfWord_0 ?_
  refine go_istore_n [1, 2, 3, 0] (L' := [(0, vR E 23), (1, vR E 39), (2, vI v2), (3, vI 0)]) dX6_indexOfWord_1 rfl (by decide) rfl ?_
  exact h
theorem s_X6_indexOfWordf_2 {l : Launch} {E : Ev} {Q : Int → Sh → Dm → Prop} {G : Sh} {D : Dm} (hL : Lay G) {v2 v3 : Int}  (h : ((-2147483648 ≤ v3 ∧ v3 < 2147483648) ∧ (-2147483648 ≤ v2 ∧ v2 < 2147483648)) ∧ ((v2 ≤ v3 → Q (-1) G D) ∧ (v3 < v2 → ((4 ≤ v3 → Q (-1) G D) ∧ (v3 < 4 → ((0 ≤ v3 ∧ v3 < 4)) ∧ (((D 39 v3) ≠ (D 23 10) → KX6_indexOfWord l E Q 2 [(0, vR E 23), (1, vR E 39), (2, vI v2), (3, vI (v3 + 1))] G D) ∧ ((D 39 v3) = (D 23 10) → Q v3 G D))))))) : KX6_indexOfWord l E Q 2 [(0, vR E 23), (1, vR E 39), (2, vI v2), (3, vI v3)] G D := by
  obtain ⟨s1, h⟩ := h
  refine go_iload_n 3 dX6_indexOfWord_2 rfl rfl ?_
  refine go_iload_n 2 dX6_indexOfWord_3 rfl rfl ?_
  refine go_icmp_ge 32 dX6_indexOfWord_4 (by decide) s1.1 s1.2 (fun c2 => ?_) (fun c2 => ?_)
  · have h := h.1 c2
    refine go_iconst dX6_indexOfWord_32 ?_
    exact go_ireturn (Nat.le_refl _) (Nat.le_refl _) rfl dX6_indexOfWord_33 h
  · have h := h.2 c2
    refine go_iload_n 3 dX6_indexOfWord_7 rfl rfl ?_
    refine go_aload_n 1 dX6_indexOfWord_8 rfl rfl ?_
    refine go_alen 1 (hL.1 39 _ rfl) (by decide) rfl (b := 4) rfl dX6_indexOfWord_9 ?_
    refine go_icmp_ge 32 dX6_indexOfWord_10 (by decide) s1.1 (by decide) (fun c5 => ?_) (fun c5 => ?_)
    · have h := h.1 c5
      refine go_iconst dX6_indexOfWord_32 ?_
      exact go_ireturn (Nat.le_refl _) (Nat.le_refl _) rfl dX6_indexOfWord_33 h
    · have h := h.2 c5
      obtain ⟨s7, h⟩ := h
      refine go_aload_n 1 dX6_indexOfWord_13 rfl rfl ?_
      refine go_iload_n 3 dX6_indexOfWord_14 rfl rfl ?_
      refine go_laload (hL.1 39 _ rfl) (b := 4) rfl (by decide) s7 dX6_indexOfWord_15 ?_
      refine go_aload_n 0 dX6_indexOfWord_16 rfl rfl ?_
      refine go_getJ 10 (i := 10) f_X6_47 rfl (hL.1 23 _ rfl) dX6_indexOfWord_17 ?_
      refine go_rngJ (c := 39) (i := v3) (hL.1 39 _ rfl) rfl (fun (q8 : -9223372036854775808 ≤ (D 39 v3) ∧ (D 39 v3) < 9223372036854775808) => ?_)
      refine go_rngJ (c := 23) (i := 10) (hL.1 23 _ rfl) rfl (fun (q9 : -9223372036854775808 ≤ (D 23 10) ∧ (D 23 10) < 9223372036854775808) => ?_)
      refine go_lcmp_ne 26 dX6_indexOfWord_20 dX6_indexOfWord_21 (by decide) q8 q9 (fun c10 => ?_) (fun c10 => ?_)
      · have h := h.1 c10
        refine go_iinc 3 [1, 2, 3, 0] (L' := [(0, vR E 23), (1, vR E 39), (2, vI v2), (3, vI (v3 + 1))]) dX6_indexOfWord_26 (by decide) rfl rfl ?_
        refine go_goto 2 dX6_indexOfWord_29 (by decide) ?_
        exact h
      · have h := h.2 c10
        refine go_iload_n 3 dX6_indexOfWord_24 rfl rfl ?_
        exact go_ireturn (Nat.le_refl _) (Nat.le_refl _) rfl dX6_indexOfWord_25 h
theorem s_X6_indexOfWordn {l : Launch} {E : Ev} {Q : Int → Sh → Dm → Prop} {G : Sh} {D : Dm} (hL : Lay G) {v2 : Int}  (h : KX6_indexOfWord l E Q 2 [(0, vR E 23), (1, .ref E.2.2.2.1), (2, vI v2), (3, vI 0)] G D) : Ct l E MX6_indexOfWord 0 0 0 [vR E 23, .ref E.2.2.2.1, vI v2] G D Q := by
  refine Ct.of (by decide) (Nat.le_of_ble_eq_true rfl) ?_
  show KX6_indexOfWord l E Q 0 [(0, vR E 23), (1, .ref E.2.2.2.1), (2, vI v2)] G D
  refine go_iconst dX6_indexOfWord_0 ?_
  refine go_istore_n [1, 2, 3, 0] (L' := [(0, vR E 23), (1, .ref E.2.2.2.1), (2, vI v2), (3, vI 0)]) dX6_indexOfWord_1 rfl (by decide) rfl ?_
  exact h
theorem s_X6_indexOfWordn_2 {l : Launch} {E : Ev} {Q : Int → Sh → Dm → Prop} {G : Sh} {D : Dm} (hL : Lay G) {v2 v3 : Int}  (h : ((-2147483648 ≤ v3 ∧ v3 < 2147483648) ∧ (-2147483648 ≤ v2 ∧ v2 < 2147483648)) ∧ ((v2 ≤ v3 → Q (-1) G D) ∧ (v3 < v2 → ((15 ≤ v3 → Q (-1) G D) ∧ (v3 < 15 → ((0 ≤ v3 ∧ v3 < 15)) ∧ (((nnL.getD v3.toNat 0) ≠ (D 23 10) → KX6_indexOfWord l E Q 2 [(0, vR E 23), (1, .ref E.2.2.2.1), (2, vI v2), (3, vI (v3 + 1))] G D) ∧ ((nnL.getD v3.toNat 0) = (D 23 10) → Q v3 G D))))))) : KX6_indexOfWord l E Q 2 [(0, vR E 23), (1, .ref E.2.2.2.1), (2, vI v2), (3, vI v3)] G D := by
  obtain ⟨s1, h⟩ := h
  refine go_iload_n 3 dX6_indexOfWord_2 rfl rfl ?_
  refine go_iload_n 2 dX6_indexOfWord_3 rfl rfl ?_
  refine go_icmp_ge 32 dX6_indexOfWord_4 (by decide) s1.1 s1.2 (fun c2 => ?_) (fun c2 => ?_)
  · have h := h.1 c2
    refine go_iconst dX6_indexOfWord_32 ?_
    exact go_ireturn (Nat.le_refl _) (Nat.le_refl _) rfl dX6_indexOfWord_33 h
  · have h := h.2 c2
    refine go_iload_n 3 dX6_indexOfWord_7 rfl rfl ?_
    refine go_sload_n 1 dX6_indexOfWord_8 rfl rfl ?_
    refine go_nnlen dX6_indexOfWord_9 ?_
    refine go_icmp_ge 32 dX6_indexOfWord_10 (by decide) s1.1 (by decide) (fun c5 => ?_) (fun c5 => ?_)
    · have h := h.1 c5
      refine go_iconst dX6_indexOfWord_32 ?_
      exact go_ireturn (Nat.le_refl _) (Nat.le_refl _) rfl dX6_indexOfWord_33 h
    · have h := h.2 c5
      obtain ⟨s7, h⟩ := h
      refine go_sload_n 1 dX6_indexOfWord_13 rfl rfl ?_
      refine go_iload_n 3 dX6_indexOfWord_14 rfl rfl ?_
      refine go_nnload s7 dX6_indexOfWord_15 ?_
      refine go_aload_n 0 dX6_indexOfWord_16 rfl rfl ?_
      refine go_getJ 10 (i := 10) f_X6_47 rfl (hL.1 23 _ rfl) dX6_indexOfWord_17 ?_
      refine go_rngJ (c := 23) (i := 10) (hL.1 23 _ rfl) rfl (fun (q8 : -9223372036854775808 ≤ (D 23 10) ∧ (D 23 10) < 9223372036854775808) => ?_)
      refine go_lcmp_ne 26 dX6_indexOfWord_20 dX6_indexOfWord_21 (by decide) (rnn _) q8 (fun c9 => ?_) (fun c9 => ?_)
      · have h := h.1 c9
        refine go_iinc 3 [1, 2, 3, 0] (L' := [(0, vR E 23), (1, .ref E.2.2.2.1), (2, vI v2), (3, vI (v3 + 1))]) dX6_indexOfWord_26 (by decide) rfl rfl ?_
        refine go_goto 2 dX6_indexOfWord_29 (by decide) ?_
        exact h
      · have h := h.2 c9
        refine go_iload_n 3 dX6_indexOfWord_24 rfl rfl ?_
        exact go_ireturn (Nat.le_refl _) (Nat.le_refl _) rfl dX6_indexOfWord_25 h
theorem s_X6_seesName {l : Launch} {E : Ev} {Q : Int → Sh → Dm → Prop} {G : Sh} {D : Dm} (hL : Lay G)  (h : (((D 23 7) ≠ 1 → Q 0 G D) ∧ ((D 23 7) = 1 → C0 l E MX6_indexOfWord 0 [vR E 23, .ref E.2.2.2.1, vI 15] G D (fun r6 D6 => ((-2147483648 ≤ r6 ∧ r6 < 2147483648)) ∧ ((r6 ≠ (-1) → Q 0 G D6) ∧ (r6 = (-1) → Q 1 G D6)))))) : Ct l E MX6_seesName 0 0 0 [vR E 23] G D Q := by
  refine Ct.of (by decide) (Nat.le_of_ble_eq_true rfl) ?_
  show KX6_seesName l E Q 0 [(0, vR E 23)] G D
  refine go_aload_n 0 dX6_seesName_0 rfl rfl ?_
  refine go_getI 7 (i := 7) f_X6_38 rfl (hL.1 23 _ rfl) dX6_seesName_1 ?_
  refine go_iconst dX6_seesName_4 ?_
  refine go_rngI (c := 23) (i := 7) (hL.1 23 _ rfl) rfl (fun (q2 : -2147483648 ≤ (D 23 7) ∧ (D 23 7) < 2147483648) => ?_)
  refine go_icmp_ne 27 dX6_seesName_5 (by decide) q2 (by decide) (fun c3 => ?_) (fun c3 => ?_)
  · have h := h.1 c3
    refine go_iconst dX6_seesName_27 ?_
    exact go_zreturn (Nat.le_refl _) (Nat.le_refl _) rfl (by decide) dX6_seesName_28 h
  · have h := h.2 c3
    refine go_aload_n 0 dX6_seesName_8 rfl rfl ?_
    refine go_nnget nn_X6_200 dX6_seesName_9 ?_
    refine go_nnget nn_X6_200 dX6_seesName_12 ?_
    refine go_nnlen dX6_seesName_15 ?_
    refine go_vI (M := MX6_indexOfWord) [.ref E.2.2.2.1, vI 15] [] mv_X6_196 (hL.1 23 _ rfl) rfl (by decide) ⟨Nat.le_of_ble_eq_true rfl, Nat.le_of_ble_eq_true rfl⟩ ⟨Nat.le_refl _, Nat.le_refl _⟩ rfl rfl (Nat.le_of_ble_eq_true rfl) dX6_seesName_16 h (fun r6 D6 h => ?_)
    obtain ⟨s7, h⟩ := h
    refine go_iconst dX6_seesName_19 ?_
    refine go_icmp_ne 27 dX6_seesName_20 (by decide) s7 (by decide) (fun c8 => ?_) (fun c8 => ?_)
    · have h := h.1 c8
      refine go_iconst dX6_seesName_27 ?_
      exact go_zreturn (Nat.le_refl _) (Nat.le_refl _) rfl (by decide) dX6_seesName_28 h
    · have h := h.2 c8
      refine go_iconst dX6_seesName_23 ?_
      refine go_goto 28 dX6_seesName_24 (by decide) ?_
      exact go_zreturn (Nat.le_refl _) (Nat.le_refl _) rfl (by decide) dX6_seesName_28 h
theorem s_X6_readNewNames {l : Launch} {E : Ev} {Q : Int → Sh → Dm → Prop} {G : Sh} {D : Dm} (hL : Lay G) {v2 : Int}  (h : C0 l E MX6_seesName 0 [vR E 23] G D (fun r2 D2 => ((-2147483648 ≤ r2 ∧ r2 < 2147483648)) ∧ ((r2 ≠ 0 → C0 l E MX6_indexOfWord 0 [vR E 23, vR E 38, vI v2] G D2 (fun r6 D6 => ((-2147483648 ≤ r6 ∧ r6 < 2147483648)) ∧ ((r6 = (-1) → C0 l E MX6_step 2 [vR E 23] G D6 (fun r10 D10 => Q (D6 23 10) G D10)) ∧ (r6 ≠ (-1) → C0 l E MX6_stop 2 [vR E 23, vI 3] G D6 (fun r13 D13 => C0 l E MX6_step 2 [vR E 23] G D13 (fun r15 D15 => Q (D13 23 10) G D15)))))) ∧ (r2 = 0 → C0 l E MX6_stop 2 [vR E 23, vI 2] G D2 (fun r18 D18 => C0 l E MX6_step 2 [vR E 23] G D18 (fun r20 D20 => Q (D18 23 10) G D20)))))) : Ct l E MX6_readNewName 1 0 0 [vR E 23, vR E 38, vI v2] G D Q := by
  refine Ct.of (by decide) (Nat.le_of_ble_eq_true rfl) ?_
  show KX6_readNewName l E Q 0 [(0, vR E 23), (1, vR E 38), (2, vI v2)] G D
  refine go_aload_n 0 dX6_readNewName_0 rfl rfl ?_
  refine go_vI (M := MX6_seesName) [] [] mv_X6_192 (hL.1 23 _ rfl) rfl (by decide) ⟨Nat.le_of_ble_eq_true rfl, Nat.le_of_ble_eq_true rfl⟩ ⟨Nat.le_refl _, Nat.le_refl _⟩ rfl rfl (Nat.le_of_ble_eq_true rfl) dX6_readNewName_1 h (fun r2 D2 h => ?_)
  obtain ⟨s3, h⟩ := h
  refine go_if_ne 15 dX6_readNewName_4 (by decide) s3 (fun c4 => ?_) (fun c4 => ?_)
  · have h := h.1 c4
    refine go_aload_n 0 dX6_readNewName_15 rfl rfl ?_
    refine go_aload_n 1 dX6_readNewName_16 rfl rfl ?_
    refine go_iload_n 2 dX6_readNewName_17 rfl rfl ?_
    refine go_vI (M := MX6_indexOfWord) [vR E 38, vI v2] [] mv_X6_196 (hL.1 23 _ rfl) rfl (by decide) ⟨Nat.le_of_ble_eq_true rfl, Nat.le_of_ble_eq_true rfl⟩ ⟨Nat.le_refl _, Nat.le_refl _⟩ rfl rfl (Nat.le_of_ble_eq_true rfl) dX6_readNewName_18 h (fun r6 D6 h => ?_)
    obtain ⟨s7, h⟩ := h
    refine go_iconst dX6_readNewName_21 ?_
    refine go_icmp_eq 30 dX6_readNewName_22 (by decide) s7 (by decide) (fun c8 => ?_) (fun c8 => ?_)
    · have h := h.1 c8
      refine go_aload_n 0 dX6_readNewName_30 rfl rfl ?_
      refine go_getJ 10 (i := 10) f_X6_47 rfl (hL.1 23 _ rfl) dX6_readNewName_31 ?_
      refine go_lstore_n [1, 2, 3, 0] (L' := [(0, vR E 23), (1, vR E 38), (2, vI v2), (3, vJ (D6 23 10))]) dX6_readNewName_34 rfl (by decide) rfl ?_
      refine go_aload_n 0 dX6_readNewName_35 rfl rfl ?_
      refine go_vV (M := MX6_step) [] [] mv_X6_74 (hL.1 23 _ rfl) rfl (by decide) ⟨Nat.le_of_ble_eq_true rfl, Nat.le_of_ble_eq_true rfl⟩ ⟨Nat.le_refl _, Nat.le_refl _⟩ rfl rfl (Nat.le_of_ble_eq_true rfl) dX6_readNewName_36 h (fun r10 D10 h => ?_)
      refine go_lload_n 3 dX6_readNewName_39 rfl rfl ?_
      exact go_lreturn (Nat.le_refl _) (Nat.le_refl _) rfl dX6_readNewName_40 h
    · have h := h.2 c8
      refine go_aload_n 0 dX6_readNewName_25 rfl rfl ?_
      refine go_iconst dX6_readNewName_26 ?_
      refine go_vV (M := MX6_stop) [vI 3] [] mv_X6_107 (hL.1 23 _ rfl) rfl (by decide) ⟨Nat.le_of_ble_eq_true rfl, Nat.le_of_ble_eq_true rfl⟩ ⟨Nat.le_refl _, Nat.le_refl _⟩ rfl rfl (Nat.le_of_ble_eq_true rfl) dX6_readNewName_27 h (fun r13 D13 h => ?_)
      refine go_aload_n 0 dX6_readNewName_30 rfl rfl ?_
      refine go_getJ 10 (i := 10) f_X6_47 rfl (hL.1 23 _ rfl) dX6_readNewName_31 ?_
      refine go_lstore_n [1, 2, 3, 0] (L' := [(0, vR E 23), (1, vR E 38), (2, vI v2), (3, vJ (D13 23 10))]) dX6_readNewName_34 rfl (by decide) rfl ?_
      refine go_aload_n 0 dX6_readNewName_35 rfl rfl ?_
      refine go_vV (M := MX6_step) [] [] mv_X6_74 (hL.1 23 _ rfl) rfl (by decide) ⟨Nat.le_of_ble_eq_true rfl, Nat.le_of_ble_eq_true rfl⟩ ⟨Nat.le_refl _, Nat.le_refl _⟩ rfl rfl (Nat.le_of_ble_eq_true rfl) dX6_readNewName_36 h (fun r15 D15 h => ?_)
      refine go_lload_n 3 dX6_readNewName_39 rfl rfl ?_
      exact go_lreturn (Nat.le_refl _) (Nat.le_refl _) rfl dX6_readNewName_40 h
  · have h := h.2 c4
    refine go_aload_n 0 dX6_readNewName_7 rfl rfl ?_
    refine go_iconst dX6_readNewName_8 ?_
    refine go_vV (M := MX6_stop) [vI 2] [] mv_X6_107 (hL.1 23 _ rfl) rfl (by decide) ⟨Nat.le_of_ble_eq_true rfl, Nat.le_of_ble_eq_true rfl⟩ ⟨Nat.le_refl _, Nat.le_refl _⟩ rfl rfl (Nat.le_of_ble_eq_true rfl) dX6_readNewName_9 h (fun r18 D18 h => ?_)
    refine go_goto 30 dX6_readNewName_12 (by decide) ?_
    refine go_aload_n 0 dX6_readNewName_30 rfl rfl ?_
    refine go_getJ 10 (i := 10) f_X6_47 rfl (hL.1 23 _ rfl) dX6_readNewName_31 ?_
    refine go_lstore_n [1, 2, 3, 0] (L' := [(0, vR E 23), (1, vR E 38), (2, vI v2), (3, vJ (D18 23 10))]) dX6_readNewName_34 rfl (by decide) rfl ?_
    refine go_aload_n 0 dX6_readNewName_35 rfl rfl ?_
    refine go_vV (M := MX6_step) [] [] mv_X6_74 (hL.1 23 _ rfl) rfl (by decide) ⟨Nat.le_of_ble_eq_true rfl, Nat.le_of_ble_eq_true rfl⟩ ⟨Nat.le_refl _, Nat.le_refl _⟩ rfl rfl (Nat.le_of_ble_eq_true rfl) dX6_readNewName_36 h (fun r20 D20 h => ?_)
    refine go_lload_n 3 dX6_readNewName_39 rfl rfl ?_
    exact go_lreturn (Nat.le_refl _) (Nat.le_refl _) rfl dX6_readNewName_40 h
theorem s_X6_readNewNamef {l : Launch} {E : Ev} {Q : Int → Sh → Dm → Prop} {G : Sh} {D : Dm} (hL : Lay G) {v2 : Int}  (h : C0 l E MX6_seesName 0 [vR E 23] G D (fun r2 D2 => ((-2147483648 ≤ r2 ∧ r2 < 2147483648)) ∧ ((r2 ≠ 0 → C0 l E MX6_indexOfWord 0 [vR E 23, vR E 39, vI v2] G D2 (fun r6 D6 => ((-2147483648 ≤ r6 ∧ r6 < 2147483648)) ∧ ((r6 = (-1) → C0 l E MX6_step 2 [vR E 23] G D6 (fun r10 D10 => Q (D6 23 10) G D10)) ∧ (r6 ≠ (-1) → C0 l E MX6_stop 2 [vR E 23, vI 3] G D6 (fun r13 D13 => C0 l E MX6_step 2 [vR E 23] G D13 (fun r15 D15 => Q (D13 23 10) G D15)))))) ∧ (r2 = 0 → C0 l E MX6_stop 2 [vR E 23, vI 2] G D2 (fun r18 D18 => C0 l E MX6_step 2 [vR E 23] G D18 (fun r20 D20 => Q (D18 23 10) G D20)))))) : Ct l E MX6_readNewName 1 0 0 [vR E 23, vR E 39, vI v2] G D Q := by
  refine Ct.of (by decide) (Nat.le_of_ble_eq_true rfl) ?_
  show KX6_readNewName l E Q 0 [(0, vR E 23), (1, vR E 39), (2, vI v2)] G D
  refine go_aload_n 0 dX6_readNewName_0 rfl rfl ?_
  refine go_vI (M := MX6_seesName) [] [] mv_X6_192 (hL.1 23 _ rfl) rfl (by decide) ⟨Nat.le_of_ble_eq_true rfl, Nat.le_of_ble_eq_true rfl⟩ ⟨Nat.le_refl _, Nat.le_refl _⟩ rfl rfl (Nat.le_of_ble_eq_true rfl) dX6_readNewName_1 h (fun r2 D2 h => ?_)
  obtain ⟨s3, h⟩ := h
  refine go_if_ne 15 dX6_readNewName_4 (by decide) s3 (fun c4 => ?_) (fun c4 => ?_)
  · have h := h.1 c4
    refine go_aload_n 0 dX6_readNewName_15 rfl rfl ?_
    refine go_aload_n 1 dX6_readNewName_16 rfl rfl ?_
    refine go_iload_n 2 dX6_readNewName_17 rfl rfl ?_
    refine go_vI (M := MX6_indexOfWord) [vR E 39, vI v2] [] mv_X6_196 (hL.1 23 _ rfl) rfl (by decide) ⟨Nat.le_of_ble_eq_true rfl, Nat.le_of_ble_eq_true rfl⟩ ⟨Nat.le_refl _, Nat.le_refl _⟩ rfl rfl (Nat.le_of_ble_eq_true rfl) dX6_readNewName_18 h (fun r6 D6 h => ?_)
    obtain ⟨s7, h⟩ := h
    refine go_iconst dX6_readNewName_21 ?_
    refine go_icmp_eq 30 dX6_readNewName_22 (by decide) s7 (by decide) (fun c8 => ?_) (fun c8 => ?_)
    · have h := h.1 c8
      refine go_aload_n 0 dX6_readNewName_30 rfl rfl ?_
      refine go_getJ 10 (i := 10) f_X6_47 rfl (hL.1 23 _ rfl) dX6_readNewName_31 ?_
      refine go_lstore_n [1, 2, 3, 0] (L' := [(0, vR E 23), (1, vR E 39), (2, vI v2), (3, vJ (D6 23 10))]) dX6_readNewName_34 rfl (by decide) rfl ?_
      refine go_aload_n 0 dX6_readNewName_35 rfl rfl ?_
      refine go_vV (M := MX6_step) [] [] mv_X6_74 (hL.1 23 _ rfl) rfl (by decide) ⟨Nat.le_of_ble_eq_true rfl, Nat.le_of_ble_eq_true rfl⟩ ⟨Nat.le_refl _, Nat.le_refl _⟩ rfl rfl (Nat.le_of_ble_eq_true rfl) dX6_readNewName_36 h (fun r10 D10 h => ?_)
      refine go_lload_n 3 dX6_readNewName_39 rfl rfl ?_
      exact go_lreturn (Nat.le_refl _) (Nat.le_refl _) rfl dX6_readNewName_40 h
    · have h := h.2 c8
      refine go_aload_n 0 dX6_readNewName_25 rfl rfl ?_
      refine go_iconst dX6_readNewName_26 ?_
      refine go_vV (M := MX6_stop) [vI 3] [] mv_X6_107 (hL.1 23 _ rfl) rfl (by decide) ⟨Nat.le_of_ble_eq_true rfl, Nat.le_of_ble_eq_true rfl⟩ ⟨Nat.le_refl _, Nat.le_refl _⟩ rfl rfl (Nat.le_of_ble_eq_true rfl) dX6_readNewName_27 h (fun r13 D13 h => ?_)
      refine go_aload_n 0 dX6_readNewName_30 rfl rfl ?_
      refine go_getJ 10 (i := 10) f_X6_47 rfl (hL.1 23 _ rfl) dX6_readNewName_31 ?_
      refine go_lstore_n [1, 2, 3, 0] (L' := [(0, vR E 23), (1, vR E 39), (2, vI v2), (3, vJ (D13 23 10))]) dX6_readNewName_34 rfl (by decide) rfl ?_
      refine go_aload_n 0 dX6_readNewName_35 rfl rfl ?_
      refine go_vV (M := MX6_step) [] [] mv_X6_74 (hL.1 23 _ rfl) rfl (by decide) ⟨Nat.le_of_ble_eq_true rfl, Nat.le_of_ble_eq_true rfl⟩ ⟨Nat.le_refl _, Nat.le_refl _⟩ rfl rfl (Nat.le_of_ble_eq_true rfl) dX6_readNewName_36 h (fun r15 D15 h => ?_)
      refine go_lload_n 3 dX6_readNewName_39 rfl rfl ?_
      exact go_lreturn (Nat.le_refl _) (Nat.le_refl _) rfl dX6_readNewName_40 h
  · have h := h.2 c4
    refine go_aload_n 0 dX6_readNewName_7 rfl rfl ?_
    refine go_iconst dX6_readNewName_8 ?_
    refine go_vV (M := MX6_stop) [vI 2] [] mv_X6_107 (hL.1 23 _ rfl) rfl (by decide) ⟨Nat.le_of_ble_eq_true rfl, Nat.le_of_ble_eq_true rfl⟩ ⟨Nat.le_refl _, Nat.le_refl _⟩ rfl rfl (Nat.le_of_ble_eq_true rfl) dX6_readNewName_9 h (fun r18 D18 h => ?_)
    refine go_goto 30 dX6_readNewName_12 (by decide) ?_
    refine go_aload_n 0 dX6_readNewName_30 rfl rfl ?_
    refine go_getJ 10 (i := 10) f_X6_47 rfl (hL.1 23 _ rfl) dX6_readNewName_31 ?_
    refine go_lstore_n [1, 2, 3, 0] (L' := [(0, vR E 23), (1, vR E 39), (2, vI v2), (3, vJ (D18 23 10))]) dX6_readNewName_34 rfl (by decide) rfl ?_
    refine go_aload_n 0 dX6_readNewName_35 rfl rfl ?_
    refine go_vV (M := MX6_step) [] [] mv_X6_74 (hL.1 23 _ rfl) rfl (by decide) ⟨Nat.le_of_ble_eq_true rfl, Nat.le_of_ble_eq_true rfl⟩ ⟨Nat.le_refl _, Nat.le_refl _⟩ rfl rfl (Nat.le_of_ble_eq_true rfl) dX6_readNewName_36 h (fun r20 D20 h => ?_)
    refine go_lload_n 3 dX6_readNewName_39 rfl rfl ?_
    exact go_lreturn (Nat.le_refl _) (Nat.le_refl _) rfl dX6_readNewName_40 h
theorem s_X6_expectWord {l : Launch} {E : Ev} {Q : Int → Sh → Dm → Prop} {G : Sh} {D : Dm} (hL : Lay G) {v1 : Int}  (h : ((-9223372036854775808 ≤ v1 ∧ v1 < 9223372036854775808)) ∧ (((((D 23 3) = 0) ∧ (((D 23 7) = 1) ∧ ((D 23 10) = v1))) → C0 l E MX6_step 2 [vR E 23] G D (fun r5 D5 => Q 0 G D5)) ∧ (¬ (((D 23 3) = 0) ∧ (((D 23 7) = 1) ∧ ((D 23 10) = v1))) → C0 l E MX6_stop 2 [vR E 23, vI 2] G D (fun r8 D8 => C0 l E MX6_step 2 [vR E 23] G D8 (fun r10 D10 => Q 0 G D10))))) : Ct l E MX6_expectWord 2 0 0 [vR E 23, vJ v1] G D Q := by
  refine Ct.of (by decide) (Nat.le_of_ble_eq_true rfl) ?_
  show KX6_expectWord l E Q 0 [(0, vR E 23), (1, vJ v1)] G D
  obtain ⟨s1, h⟩ := h
  refine go_aload_n 0 dX6_expectWord_0 rfl rfl ?_
  refine go_lload_n 1 dX6_expectWord_1 rfl rfl ?_
  refine go_vIp (M := MX6_sees) [vJ v1] [] mv_X6_79 (hL.1 23 _ rfl) rfl (by decide) ⟨Nat.le_of_ble_eq_true rfl, Nat.le_of_ble_eq_true rfl⟩ ⟨Nat.le_refl _, Nat.le_refl _⟩ rfl rfl (Nat.le_of_ble_eq_true rfl) dX6_expectWord_2 (p_X6_sees hL s1) ?_
  refine go_ifb_ne 13 dX6_expectWord_5 (by decide) (fun c3 => ?_) (fun c3 => ?_)
  · have h := h.1 c3
    refine go_aload_n 0 dX6_expectWord_13 rfl rfl ?_
    refine go_vV (M := MX6_step) [] [] mv_X6_74 (hL.1 23 _ rfl) rfl (by decide) ⟨Nat.le_of_ble_eq_true rfl, Nat.le_of_ble_eq_true rfl⟩ ⟨Nat.le_refl _, Nat.le_refl _⟩ rfl rfl (Nat.le_of_ble_eq_true rfl) dX6_expectWord_14 h (fun r5 D5 h => ?_)
    exact go_return (Nat.le_refl _) (Nat.le_refl _) rfl dX6_expectWord_17 h
  · have h := h.2 c3
    refine go_aload_n 0 dX6_expectWord_8 rfl rfl ?_
    refine go_iconst dX6_expectWord_9 ?_
    refine go_vV (M := MX6_stop) [vI 2] [] mv_X6_107 (hL.1 23 _ rfl) rfl (by decide) ⟨Nat.le_of_ble_eq_true rfl, Nat.le_of_ble_eq_true rfl⟩ ⟨Nat.le_refl _, Nat.le_refl _⟩ rfl rfl (Nat.le_of_ble_eq_true rfl) dX6_expectWord_10 h (fun r8 D8 h => ?_)
    refine go_aload_n 0 dX6_expectWord_13 rfl rfl ?_
    refine go_vV (M := MX6_step) [] [] mv_X6_74 (hL.1 23 _ rfl) rfl (by decide) ⟨Nat.le_of_ble_eq_true rfl, Nat.le_of_ble_eq_true rfl⟩ ⟨Nat.le_refl _, Nat.le_refl _⟩ rfl rfl (Nat.le_of_ble_eq_true rfl) dX6_expectWord_14 h (fun r10 D10 h => ?_)
    exact go_return (Nat.le_refl _) (Nat.le_refl _) rfl dX6_expectWord_17 h
theorem s_X6_readNumber {l : Launch} {E : Ev} {Q : Int → Sh → Dm → Prop} {G : Sh} {D : Dm} (hL : Lay G) {v1 v2 : Int}  (h : (((D 23 7) = 2 → ((-2147483648 ≤ v1 ∧ v1 < 2147483648)) ∧ (((D 23 9) < v1 → C0 l E MX6_stop 2 [vR E 23, vI 4] G D (fun r8 D8 => C0 l E MX6_step 2 [vR E 23] G D8 (fun r10 D10 => Q (D8 23 9) G D10))) ∧ (v1 ≤ (D 23 9) → ((-2147483648 ≤ v2 ∧ v2 < 2147483648)) ∧ (((D 23 9) ≤ v2 → C0 l E MX6_step 2 [vR E 23] G D (fun r15 D15 => Q (D 23 9) G D15)) ∧ (v2 < (D 23 9) → C0 l E MX6_stop 2 [vR E 23, vI 4] G D (fun r18 D18 => C0 l E MX6_step 2 [vR E 23] G D18 (fun r20 D20 => Q (D18 23 9) G D20))))))) ∧ ((D 23 7) ≠ 2 → C0 l E MX6_stop 2 [vR E 23, vI 2] G D (fun r23 D23 => C0 l E MX6_step 2 [vR E 23] G D23 (fun r25 D25 => Q (D23 23 9) G D25))))) : Ct l E MX6_readNumber 0 0 0 [vR E 23, vI v1, vI v2] G D Q := by
  refine Ct.of (by decide) (Nat.le_of_ble_eq_true rfl) ?_
  show KX6_readNumber l E Q 0 [(0, vR E 23), (1, vI v1), (2, vI v2)] G D
  refine go_aload_n 0 dX6_readNumber_0 rfl rfl ?_
  refine go_getI 7 (i := 7) f_X6_38 rfl (hL.1 23 _ rfl) dX6_readNumber_1 ?_
  refine go_iconst dX6_readNumber_4 ?_
  refine go_rngI (c := 23) (i := 7) (hL.1 23 _ rfl) rfl (fun (q2 : -2147483648 ≤ (D 23 7) ∧ (D 23 7) < 2147483648) => ?_)
  refine go_icmp_eq 16 dX6_readNumber_5 (by decide) q2 (by decide) (fun c3 => ?_) (fun c3 => ?_)
  · have h := h.1 c3
    obtain ⟨s4, h⟩ := h
    refine go_aload_n 0 dX6_readNumber_16 rfl rfl ?_
    refine go_getI 9 (i := 9) f_X6_44 rfl (hL.1 23 _ rfl) dX6_readNumber_17 ?_
    refine go_iload_n 1 dX6_readNumber_20 rfl rfl ?_
    refine go_rngI (c := 23) (i := 9) (hL.1 23 _ rfl) rfl (fun (q5 : -2147483648 ≤ (D 23 9) ∧ (D 23 9) < 2147483648) => ?_)
    refine go_icmp_lt 32 dX6_readNumber_21 (by decide) q5 s4 (fun c6 => ?_) (fun c6 => ?_)
    · have h := h.1 c6
      refine go_aload_n 0 dX6_readNumber_32 rfl rfl ?_
      refine go_iconst dX6_readNumber_33 ?_
      refine go_vV (M := MX6_stop) [vI 4] [] mv_X6_107 (hL.1 23 _ rfl) rfl (by decide) ⟨Nat.le_of_ble_eq_true rfl, Nat.le_of_ble_eq_true rfl⟩ ⟨Nat.le_refl _, Nat.le_refl _⟩ rfl rfl (Nat.le_of_ble_eq_true rfl) dX6_readNumber_34 h (fun r8 D8 h => ?_)
      refine go_aload_n 0 dX6_readNumber_37 rfl rfl ?_
      refine go_getI 9 (i := 9) f_X6_44 rfl (hL.1 23 _ rfl) dX6_readNumber_38 ?_
      refine go_istore_n [1, 2, 3, 0] (L' := [(0, vR E 23), (1, vI v1), (2, vI v2), (3, vI (D8 23 9))]) dX6_readNumber_41 rfl (by decide) rfl ?_
      refine go_aload_n 0 dX6_readNumber_42 rfl rfl ?_
      refine go_vV (M := MX6_step) [] [] mv_X6_74 (hL.1 23 _ rfl) rfl (by decide) ⟨Nat.le_of_ble_eq_true rfl, Nat.le_of_ble_eq_true rfl⟩ ⟨Nat.le_refl _, Nat.le_refl _⟩ rfl rfl (Nat.le_of_ble_eq_true rfl) dX6_readNumber_43 h (fun r10 D10 h => ?_)
      refine go_iload_n 3 dX6_readNumber_46 rfl rfl ?_
      exact go_ireturn (Nat.le_refl _) (Nat.le_refl _) rfl dX6_readNumber_47 h
    · have h := h.2 c6
      obtain ⟨s12, h⟩ := h
      refine go_aload_n 0 dX6_readNumber_24 rfl rfl ?_
      refine go_getI 9 (i := 9) f_X6_44 rfl (hL.1 23 _ rfl) dX6_readNumber_25 ?_
      refine go_iload_n 2 dX6_readNumber_28 rfl rfl ?_
      refine go_icmp_le 37 dX6_readNumber_29 (by decide) q5 s12 (fun c13 => ?_) (fun c13 => ?_)
      · have h := h.1 c13
        refine go_aload_n 0 dX6_readNumber_37 rfl rfl ?_
        refine go_getI 9 (i := 9) f_X6_44 rfl (hL.1 23 _ rfl) dX6_readNumber_38 ?_
        refine go_istore_n [1, 2, 3, 0] (L' := [(0, vR E 23), (1, vI v1), (2, vI v2), (3, vI (D 23 9))]) dX6_readNumber_41 rfl (by decide) rfl ?_
        refine go_aload_n 0 dX6_readNumber_42 rfl rfl ?_
        refine go_vV (M := MX6_step) [] [] mv_X6_74 (hL.1 23 _ rfl) rfl (by decide) ⟨Nat.le_of_ble_eq_true rfl, Nat.le_of_ble_eq_true rfl⟩ ⟨Nat.le_refl _, Nat.le_refl _⟩ rfl rfl (Nat.le_of_ble_eq_true rfl) dX6_readNumber_43 h (fun r15 D15 h => ?_)
        refine go_iload_n 3 dX6_readNumber_46 rfl rfl ?_
        exact go_ireturn (Nat.le_refl _) (Nat.le_refl _) rfl dX6_readNumber_47 h
      · have h := h.2 c13
        refine go_aload_n 0 dX6_readNumber_32 rfl rfl ?_
        refine go_iconst dX6_readNumber_33 ?_
        refine go_vV (M := MX6_stop) [vI 4] [] mv_X6_107 (hL.1 23 _ rfl) rfl (by decide) ⟨Nat.le_of_ble_eq_true rfl, Nat.le_of_ble_eq_true rfl⟩ ⟨Nat.le_refl _, Nat.le_refl _⟩ rfl rfl (Nat.le_of_ble_eq_true rfl) dX6_readNumber_34 h (fun r18 D18 h => ?_)
        refine go_aload_n 0 dX6_readNumber_37 rfl rfl ?_
        refine go_getI 9 (i := 9) f_X6_44 rfl (hL.1 23 _ rfl) dX6_readNumber_38 ?_
        refine go_istore_n [1, 2, 3, 0] (L' := [(0, vR E 23), (1, vI v1), (2, vI v2), (3, vI (D18 23 9))]) dX6_readNumber_41 rfl (by decide) rfl ?_
        refine go_aload_n 0 dX6_readNumber_42 rfl rfl ?_
        refine go_vV (M := MX6_step) [] [] mv_X6_74 (hL.1 23 _ rfl) rfl (by decide) ⟨Nat.le_of_ble_eq_true rfl, Nat.le_of_ble_eq_true rfl⟩ ⟨Nat.le_refl _, Nat.le_refl _⟩ rfl rfl (Nat.le_of_ble_eq_true rfl) dX6_readNumber_43 h (fun r20 D20 h => ?_)
        refine go_iload_n 3 dX6_readNumber_46 rfl rfl ?_
        exact go_ireturn (Nat.le_refl _) (Nat.le_refl _) rfl dX6_readNumber_47 h
  · have h := h.2 c3
    refine go_aload_n 0 dX6_readNumber_8 rfl rfl ?_
    refine go_iconst dX6_readNumber_9 ?_
    refine go_vV (M := MX6_stop) [vI 2] [] mv_X6_107 (hL.1 23 _ rfl) rfl (by decide) ⟨Nat.le_of_ble_eq_true rfl, Nat.le_of_ble_eq_true rfl⟩ ⟨Nat.le_refl _, Nat.le_refl _⟩ rfl rfl (Nat.le_of_ble_eq_true rfl) dX6_readNumber_10 h (fun r23 D23 h => ?_)
    refine go_goto 37 dX6_readNumber_13 (by decide) ?_
    refine go_aload_n 0 dX6_readNumber_37 rfl rfl ?_
    refine go_getI 9 (i := 9) f_X6_44 rfl (hL.1 23 _ rfl) dX6_readNumber_38 ?_
    refine go_istore_n [1, 2, 3, 0] (L' := [(0, vR E 23), (1, vI v1), (2, vI v2), (3, vI (D23 23 9))]) dX6_readNumber_41 rfl (by decide) rfl ?_
    refine go_aload_n 0 dX6_readNumber_42 rfl rfl ?_
    refine go_vV (M := MX6_step) [] [] mv_X6_74 (hL.1 23 _ rfl) rfl (by decide) ⟨Nat.le_of_ble_eq_true rfl, Nat.le_of_ble_eq_true rfl⟩ ⟨Nat.le_refl _, Nat.le_refl _⟩ rfl rfl (Nat.le_of_ble_eq_true rfl) dX6_readNumber_43 h (fun r25 D25 h => ?_)
    refine go_iload_n 3 dX6_readNumber_46 rfl rfl ?_
    exact go_ireturn (Nat.le_refl _) (Nat.le_refl _) rfl dX6_readNumber_47 h
theorem s_X6_expectSign {l : Launch} {E : Ev} {Q : Int → Sh → Dm → Prop} {G : Sh} {D : Dm} (hL : Lay G)  (h : (((D 23 7) = 3 → C0 l E MX6_step 2 [vR E 23] G D (fun r5 D5 => Q 0 G D5)) ∧ ((D 23 7) ≠ 3 → C0 l E MX6_stop 2 [vR E 23, vI 2] G D (fun r8 D8 => C0 l E MX6_step 2 [vR E 23] G D8 (fun r10 D10 => Q 0 G D10))))) : Ct l E MX6_expectSign 2 0 0 [vR E 23] G D Q := by
  refine Ct.of (by decide) (Nat.le_of_ble_eq_true rfl) ?_
  show KX6_expectSign l E Q 0 [(0, vR E 23)] G D
  refine go_aload_n 0 dX6_expectSign_0 rfl rfl ?_
  refine go_getI 7 (i := 7) f_X6_38 rfl (hL.1 23 _ rfl) dX6_expectSign_1 ?_
  refine go_iconst dX6_expectSign_4 ?_
  refine go_rngI (c := 23) (i := 7) (hL.1 23 _ rfl) rfl (fun (q2 : -2147483648 ≤ (D 23 7) ∧ (D 23 7) < 2147483648) => ?_)
  refine go_icmp_eq 13 dX6_expectSign_5 (by decide) q2 (by decide) (fun c3 => ?_) (fun c3 => ?_)
  · have h := h.1 c3
    refine go_aload_n 0 dX6_expectSign_13 rfl rfl ?_
    refine go_vV (M := MX6_step) [] [] mv_X6_74 (hL.1 23 _ rfl) rfl (by decide) ⟨Nat.le_of_ble_eq_true rfl, Nat.le_of_ble_eq_true rfl⟩ ⟨Nat.le_refl _, Nat.le_refl _⟩ rfl rfl (Nat.le_of_ble_eq_true rfl) dX6_expectSign_14 h (fun r5 D5 h => ?_)
    exact go_return (Nat.le_refl _) (Nat.le_refl _) rfl dX6_expectSign_17 h
  · have h := h.2 c3
    refine go_aload_n 0 dX6_expectSign_8 rfl rfl ?_
    refine go_iconst dX6_expectSign_9 ?_
    refine go_vV (M := MX6_stop) [vI 2] [] mv_X6_107 (hL.1 23 _ rfl) rfl (by decide) ⟨Nat.le_of_ble_eq_true rfl, Nat.le_of_ble_eq_true rfl⟩ ⟨Nat.le_refl _, Nat.le_refl _⟩ rfl rfl (Nat.le_of_ble_eq_true rfl) dX6_expectSign_10 h (fun r8 D8 h => ?_)
    refine go_aload_n 0 dX6_expectSign_13 rfl rfl ?_
    refine go_vV (M := MX6_step) [] [] mv_X6_74 (hL.1 23 _ rfl) rfl (by decide) ⟨Nat.le_of_ble_eq_true rfl, Nat.le_of_ble_eq_true rfl⟩ ⟨Nat.le_refl _, Nat.le_refl _⟩ rfl rfl (Nat.le_of_ble_eq_true rfl) dX6_expectSign_14 h (fun r10 D10 h => ?_)
    exact go_return (Nat.le_refl _) (Nat.le_refl _) rfl dX6_expectSign_17 h
theorem s_X6_readStrip {l : Launch} {E : Ev} {Q : Int → Sh → Dm → Prop} {G : Sh} {D : Dm} (hL : Lay G)  (h : (((D 25 0) < 10 → C0 l E MX6_step 2 [vR E 23] G D (fun r5 D5 => C0 l E MX6_readNewName 1 [vR E 23, vR E 38, vI (D 25 0)] G D5 (fun r7 D7 => ((0 ≤ (D 25 0) ∧ (D 25 0) < 10) ∧ (-9223372036854775808 ≤ r7 ∧ r7 < 9223372036854775808)) ∧ C0 l E MX6_expectWord 2 [vR E 23, vJ 24948] G (upd2 D7 38 (D 25 0) r7) (fun r9 D9 => C0 l E MX6_readNumber 0 [vR E 23, vI 0, vI 99] G D9 (fun r11 D11 => ((-2147483648 ≤ r11 ∧ r11 < 2147483648)) ∧ C0 l E MX6_readNumber 0 [vR E 23, vI 0, vI 99] G (upd2 D11 26 (D 25 0) r11) (fun r13 D13 => ((-2147483648 ≤ r13 ∧ r13 < 2147483648)) ∧ C0 l E MX6_expectWord 2 [vR E 23, vJ 444150998387] G (upd2 D13 27 (D 25 0) r13) (fun r15 D15 => C0 l E MX6_readNumber 0 [vR E 23, vI 1, vI 99] G D15 (fun r17 D17 => ((-2147483648 ≤ r17 ∧ r17 < 2147483648)) ∧ ((¬ (((D17 23 3) = 0) ∧ (((D17 23 7) = 1) ∧ ((D17 23 10) = 1936681324))) → C0 l E MX6_expectSign 2 [vR E 23] G (upd2 (upd2 D17 28 (D 25 0) r17) 29 (D 25 0) 1) (fun r22 D22 => ((-2147483648 ≤ ((D 25 0) + 1) ∧ ((D 25 0) + 1) < 2147483648)) ∧ Q 0 G (upd2 (upd2 D22 30 (D 25 0) (-1)) 25 0 ((D 25 0) + 1)))) ∧ ((((D17 23 3) = 0) ∧ (((D17 23 7) = 1) ∧ ((D17 23 10) = 1936681324))) → C0 l E MX6_step 2 [vR E 23] G (upd2 (upd2 D17 28 (D 25 0) r17) 29 (D 25 0) 1) (fun r25 D25 => C0 l E MX6_readNumber 0 [vR E 23, vI 1, vI 3] G D25 (fun r27 D27 => ((-2147483648 ≤ r27 ∧ r27 < 2147483648)) ∧ C0 l E MX6_expectSign 2 [vR E 23] G (upd2 D27 29 (D 25 0) r27) (fun r29 D29 => ((-2147483648 ≤ ((D 25 0) + 1) ∧ ((D 25 0) + 1) < 2147483648)) ∧ Q 0 G (upd2 (upd2 D29 30 (D 25 0) (-1)) 25 0 ((D 25 0) + 1))))))))))))))) ∧ (10 ≤ (D 25 0) → C0 l E MX6_stop 2 [vR E 23, vI 5] G D (fun r32 D32 => Q 0 G D32)))) : Ct l E MX6_readStrip 2 0 0 [vR E 23] G D Q := by
  refine Ct.of (by decide) (Nat.le_of_ble_eq_true rfl) ?_
  show KX6_readStrip l E Q 0 [(0, vR E 23)] G D
  refine go_aload_n 0 dX6_readStrip_0 rfl rfl ?_
  refine go_getR 2 f_X6_22 rfl (hL.1 23 _ rfl) (hL.2.1 23 2 _ rfl (by decide)) dX6_readStrip_1 ?_
  refine go_getI 0 (i := 0) f_X6_104 rfl (hL.1 25 _ rfl) dX6_readStrip_4 ?_
  refine go_istore_n [1, 0] (L' := [(0, vR E 23), (1, vI (D 25 0))]) dX6_readStrip_7 rfl (by decide) rfl ?_
  refine go_iload_n 1 dX6_readStrip_8 rfl rfl ?_
  refine go_bipush dX6_readStrip_9 (by decide) ?_
  refine go_rngI (c := 25) (i := 0) (hL.1 25 _ rfl) rfl (fun (q2 : -2147483648 ≤ (D 25 0) ∧ (D 25 0) < 2147483648) => ?_)
  refine go_icmp_lt 20 dX6_readStrip_11 (by decide) q2 (by decide) (fun c3 => ?_) (fun c3 => ?_)
  · have h := h.1 c3
    refine go_aload_n 0 dX6_readStrip_20 rfl rfl ?_
    refine go_vV (M := MX6_step) [] [] mv_X6_74 (hL.1 23 _ rfl) rfl (by decide) ⟨Nat.le_of_ble_eq_true rfl, Nat.le_of_ble_eq_true rfl⟩ ⟨Nat.le_refl _, Nat.le_refl _⟩ rfl rfl (Nat.le_of_ble_eq_true rfl) dX6_readStrip_21 h (fun r5 D5 h => ?_)
    refine go_aload_n 0 dX6_readStrip_24 rfl rfl ?_
    refine go_getR 11 f_X6_51 rfl (hL.1 23 _ rfl) (hL.2.1 23 11 _ rfl (by decide)) dX6_readStrip_25 ?_
    refine go_iload_n 1 dX6_readStrip_28 rfl rfl ?_
    refine go_aload_n 0 dX6_readStrip_29 rfl rfl ?_
    refine go_aload_n 0 dX6_readStrip_30 rfl rfl ?_
    refine go_getR 11 f_X6_51 rfl (hL.1 23 _ rfl) (hL.2.1 23 11 _ rfl (by decide)) dX6_readStrip_31 ?_
    refine go_iload_n 1 dX6_readStrip_34 rfl rfl ?_
    refine go_vJ (M := MX6_readNewName) [vR E 38, vI (D 25 0)] [vI (D 25 0), vR E 38] mv_X6_111 (hL.1 23 _ rfl) rfl (by decide) ⟨Nat.le_of_ble_eq_true rfl, Nat.le_of_ble_eq_true rfl⟩ ⟨Nat.le_refl _, Nat.le_refl _⟩ rfl rfl (Nat.le_of_ble_eq_true rfl) dX6_readStrip_35 h (fun r7 D7 h => ?_)
    obtain ⟨s8, h⟩ := h
    refine go_lastore (hL.1 38 _ rfl) (b := 10) rfl (by decide) s8.1 s8.2 dX6_readStrip_38 ?_
    refine go_aload_n 0 dX6_readStrip_39 rfl rfl ?_
    refine go_ldc2 (x := 24948) k_X6_115 dX6_readStrip_40 ?_
    refine go_vV (M := MX6_expectWord) [vJ 24948] [] mv_X6_117 (hL.1 23 _ rfl) rfl (by decide) ⟨Nat.le_of_ble_eq_true rfl, Nat.le_of_ble_eq_true rfl⟩ ⟨Nat.le_refl _, Nat.le_refl _⟩ rfl rfl (Nat.le_of_ble_eq_true rfl) dX6_readStrip_43 h (fun r9 D9 h => ?_)
    refine go_aload_n 0 dX6_readStrip_46 rfl rfl ?_
    refine go_getR 2 f_X6_22 rfl (hL.1 23 _ rfl) (hL.2.1 23 2 _ rfl (by decide)) dX6_readStrip_47 ?_
    refine go_getR 5 f_X6_121 rfl (hL.1 25 _ rfl) (hL.2.1 25 5 _ rfl (by decide)) dX6_readStrip_50 ?_
    refine go_iload_n 1 dX6_readStrip_53 rfl rfl ?_
    refine go_aload_n 0 dX6_readStrip_54 rfl rfl ?_
    refine go_iconst dX6_readStrip_55 ?_
    refine go_bipush dX6_readStrip_56 (by decide) ?_
    refine go_vI (M := MX6_readNumber) [vI 0, vI 99] [vI (D 25 0), vR E 26] mv_X6_124 (hL.1 23 _ rfl) rfl (by decide) ⟨Nat.le_of_ble_eq_true rfl, Nat.le_of_ble_eq_true rfl⟩ ⟨Nat.le_refl _, Nat.le_refl _⟩ rfl rfl (Nat.le_of_ble_eq_true rfl) dX6_readStrip_58 h (fun r11 D11 h => ?_)
    obtain ⟨s12, h⟩ := h
    refine go_iastore (hL.1 26 _ rfl) (b := 10) rfl (by decide) s8.1 s12 dX6_readStrip_61 ?_
    refine go_aload_n 0 dX6_readStrip_62 rfl rfl ?_
    refine go_getR 2 f_X6_22 rfl (hL.1 23 _ rfl) (hL.2.1 23 2 _ rfl (by decide)) dX6_readStrip_63 ?_
    refine go_getR 6 f_X6_127 rfl (hL.1 25 _ rfl) (hL.2.1 25 6 _ rfl (by decide)) dX6_readStrip_66 ?_
    refine go_iload_n 1 dX6_readStrip_69 rfl rfl ?_
    refine go_aload_n 0 dX6_readStrip_70 rfl rfl ?_
    refine go_iconst dX6_readStrip_71 ?_
    refine go_bipush dX6_readStrip_72 (by decide) ?_
    refine go_vI (M := MX6_readNumber) [vI 0, vI 99] [vI (D 25 0), vR E 27] mv_X6_124 (hL.1 23 _ rfl) rfl (by decide) ⟨Nat.le_of_ble_eq_true rfl, Nat.le_of_ble_eq_true rfl⟩ ⟨Nat.le_refl _, Nat.le_refl _⟩ rfl rfl (Nat.le_of_ble_eq_true rfl) dX6_readStrip_74 h (fun r13 D13 h => ?_)
    obtain ⟨s14, h⟩ := h
    refine go_iastore (hL.1 27 _ rfl) (b := 10) rfl (by decide) s8.1 s14 dX6_readStrip_77 ?_
    refine go_aload_n 0 dX6_readStrip_78 rfl rfl ?_
    refine go_ldc2 (x := 444150998387) k_X6_130 dX6_readStrip_79 ?_
    refine go_vV (M := MX6_expectWord) [vJ 444150998387] [] mv_X6_117 (hL.1 23 _ rfl) rfl (by decide) ⟨Nat.le_of_ble_eq_true rfl, Nat.le_of_ble_eq_true rfl⟩ ⟨Nat.le_refl _, Nat.le_refl _⟩ rfl rfl (Nat.le_of_ble_eq_true rfl) dX6_readStrip_82 h (fun r15 D15 h => ?_)
    refine go_aload_n 0 dX6_readStrip_85 rfl rfl ?_
    refine go_getR 2 f_X6_22 rfl (hL.1 23 _ rfl) (hL.2.1 23 2 _ rfl (by decide)) dX6_readStrip_86 ?_
    refine go_getR 7 f_X6_132 rfl (hL.1 25 _ rfl) (hL.2.1 25 7 _ rfl (by decide)) dX6_readStrip_89 ?_
    refine go_iload_n 1 dX6_readStrip_92 rfl rfl ?_
    refine go_aload_n 0 dX6_readStrip_93 rfl rfl ?_
    refine go_iconst dX6_readStrip_94 ?_
    refine go_bipush dX6_readStrip_95 (by decide) ?_
    refine go_vI (M := MX6_readNumber) [vI 1, vI 99] [vI (D 25 0), vR E 28] mv_X6_124 (hL.1 23 _ rfl) rfl (by decide) ⟨Nat.le_of_ble_eq_true rfl, Nat.le_of_ble_eq_true rfl⟩ ⟨Nat.le_refl _, Nat.le_refl _⟩ rfl rfl (Nat.le_of_ble_eq_true rfl) dX6_readStrip_97 h (fun r17 D17 h => ?_)
    obtain ⟨s18, h⟩ := h
    refine go_iastore (hL.1 28 _ rfl) (b := 10) rfl (by decide) s8.1 s18 dX6_readStrip_100 ?_
    refine go_aload_n 0 dX6_readStrip_101 rfl rfl ?_
    refine go_getR 2 f_X6_22 rfl (hL.1 23 _ rfl) (hL.2.1 23 2 _ rfl (by decide)) dX6_readStrip_102 ?_
    refine go_getR 8 f_X6_135 rfl (hL.1 25 _ rfl) (hL.2.1 25 8 _ rfl (by decide)) dX6_readStrip_105 ?_
    refine go_iload_n 1 dX6_readStrip_108 rfl rfl ?_
    refine go_iconst dX6_readStrip_109 ?_
    refine go_iastore (hL.1 29 _ rfl) (b := 10) rfl (by decide) s8.1 (by decide) dX6_readStrip_110 ?_
    refine go_aload_n 0 dX6_readStrip_111 rfl rfl ?_
    refine go_ldc2 (x := 1936681324) k_X6_138 dX6_readStrip_112 ?_
    refine go_vIp (M := MX6_sees) [vJ 1936681324] [] mv_X6_79 (hL.1 23 _ rfl) rfl (by decide) ⟨Nat.le_of_ble_eq_true rfl, Nat.le_of_ble_eq_true rfl⟩ ⟨Nat.le_refl _, Nat.le_refl _⟩ rfl rfl (Nat.le_of_ble_eq_true rfl) dX6_readStrip_115 (p_X6_sees hL (by decide)) ?_
    refine go_ifb_eq 140 dX6_readStrip_118 (by decide) (fun c20 => ?_) (fun c20 => ?_)
    · have h := h.1 c20
      refine go_aload_n 0 dX6_readStrip_140 rfl rfl ?_
      refine go_vV (M := MX6_expectSign) [] [] mv_X6_140 (hL.1 23 _ rfl) rfl (by decide) ⟨Nat.le_of_ble_eq_true rfl, Nat.le_of_ble_eq_true rfl⟩ ⟨Nat.le_refl _, Nat.le_refl _⟩ rfl rfl (Nat.le_of_ble_eq_true rfl) dX6_readStrip_141 h (fun r22 D22 h => ?_)
      obtain ⟨s23, h⟩ := h
      refine go_aload_n 0 dX6_readStrip_144 rfl rfl ?_
      refine go_getR 2 f_X6_22 rfl (hL.1 23 _ rfl) (hL.2.1 23 2 _ rfl (by decide)) dX6_readStrip_145 ?_
      refine go_getR 9 f_X6_143 rfl (hL.1 25 _ rfl) (hL.2.1 25 9 _ rfl (by decide)) dX6_readStrip_148 ?_
      refine go_iload_n 1 dX6_readStrip_151 rfl rfl ?_
      refine go_iconst dX6_readStrip_152 ?_
      refine go_iastore (hL.1 30 _ rfl) (b := 10) rfl (by decide) s8.1 (by decide) dX6_readStrip_153 ?_
      refine go_aload_n 0 dX6_readStrip_154 rfl rfl ?_
      refine go_getR 2 f_X6_22 rfl (hL.1 23 _ rfl) (hL.2.1 23 2 _ rfl (by decide)) dX6_readStrip_155 ?_
      refine go_iload_n 1 dX6_readStrip_158 rfl rfl ?_
      refine go_iconst dX6_readStrip_159 ?_
      refine go_iadd dX6_readStrip_160 ?_
      refine go_putI 0 (i := 0) s23 f_X6_104 rfl (hL.1 25 _ rfl) dX6_readStrip_161 ?_
      exact go_return (Nat.le_refl _) (Nat.le_refl _) rfl dX6_readStrip_164 h
    · have h := h.2 c20
      refine go_aload_n 0 dX6_readStrip_121 rfl rfl ?_
      refine go_vV (M := MX6_step) [] [] mv_X6_74 (hL.1 23 _ rfl) rfl (by decide) ⟨Nat.le_of_ble_eq_true rfl, Nat.le_of_ble_eq_true rfl⟩ ⟨Nat.le_refl _, Nat.le_refl _⟩ rfl rfl (Nat.le_of_ble_eq_true rfl) dX6_readStrip_122 h (fun r25 D25 h => ?_)
      refine go_aload_n 0 dX6_readStrip_125 rfl rfl ?_
      refine go_getR 2 f_X6_22 rfl (hL.1 23 _ rfl) (hL.2.1 23 2 _ rfl (by decide)) dX6_readStrip_126 ?_
      refine go_getR 8 f_X6_135 rfl (hL.1 25 _ rfl) (hL.2.1 25 8 _ rfl (by decide)) dX6_readStrip_129 ?_
      refine go_iload_n 1 dX6_readStrip_132 rfl rfl ?_
      refine go_aload_n 0 dX6_readStrip_133 rfl rfl ?_
      refine go_iconst dX6_readStrip_134 ?_
      refine go_iconst dX6_readStrip_135 ?_
      refine go_vI (M := MX6_readNumber) [vI 1, vI 3] [vI (D 25 0), vR E 29] mv_X6_124 (hL.1 23 _ rfl) rfl (by decide) ⟨Nat.le_of_ble_eq_true rfl, Nat.le_of_ble_eq_true rfl⟩ ⟨Nat.le_refl _, Nat.le_refl _⟩ rfl rfl (Nat.le_of_ble_eq_true rfl) dX6_readStrip_136 h (fun r27 D27 h => ?_)
      obtain ⟨s28, h⟩ := h
      refine go_iastore (hL.1 29 _ rfl) (b := 10) rfl (by decide) s8.1 s28 dX6_readStrip_139 ?_
      refine go_aload_n 0 dX6_readStrip_140 rfl rfl ?_
      refine go_vV (M := MX6_expectSign) [] [] mv_X6_140 (hL.1 23 _ rfl) rfl (by decide) ⟨Nat.le_of_ble_eq_true rfl, Nat.le_of_ble_eq_true rfl⟩ ⟨Nat.le_refl _, Nat.le_refl _⟩ rfl rfl (Nat.le_of_ble_eq_true rfl) dX6_readStrip_141 h (fun r29 D29 h => ?_)
      obtain ⟨s30, h⟩ := h
      refine go_aload_n 0 dX6_readStrip_144 rfl rfl ?_
      refine go_getR 2 f_X6_22 rfl (hL.1 23 _ rfl) (hL.2.1 23 2 _ rfl (by decide)) dX6_readStrip_145 ?_
      refine go_getR 9 f_X6_143 rfl (hL.1 25 _ rfl) (hL.2.1 25 9 _ rfl (by decide)) dX6_readStrip_148 ?_
      refine go_iload_n 1 dX6_readStrip_151 rfl rfl ?_
      refine go_iconst dX6_readStrip_152 ?_
      refine go_iastore (hL.1 30 _ rfl) (b := 10) rfl (by decide) s8.1 (by decide) dX6_readStrip_153 ?_
      refine go_aload_n 0 dX6_readStrip_154 rfl rfl ?_
      refine go_getR 2 f_X6_22 rfl (hL.1 23 _ rfl) (hL.2.1 23 2 _ rfl (by decide)) dX6_readStrip_155 ?_
      refine go_iload_n 1 dX6_readStrip_158 rfl rfl ?_
      refine go_iconst dX6_readStrip_159 ?_
      refine go_iadd dX6_readStrip_160 ?_
      refine go_putI 0 (i := 0) s30 f_X6_104 rfl (hL.1 25 _ rfl) dX6_readStrip_161 ?_
      exact go_return (Nat.le_refl _) (Nat.le_refl _) rfl dX6_readStrip_164 h
  · have h := h.2 c3
    refine go_aload_n 0 dX6_readStrip_14 rfl rfl ?_
    refine go_iconst dX6_readStrip_15 ?_
    refine go_vV (M := MX6_stop) [vI 5] [] mv_X6_107 (hL.1 23 _ rfl) rfl (by decide) ⟨Nat.le_of_ble_eq_true rfl, Nat.le_of_ble_eq_true rfl⟩ ⟨Nat.le_refl _, Nat.le_refl _⟩ rfl rfl (Nat.le_of_ble_eq_true rfl) dX6_readStrip_16 h (fun r32 D32 h => ?_)
    exact go_return (Nat.le_refl _) (Nat.le_refl _) rfl dX6_readStrip_19 h
theorem s_X6_readHeld {l : Launch} {E : Ev} {Q : Int → Sh → Dm → Prop} {G : Sh} {D : Dm} (hL : Lay G) {v1 : Int}  (h : C0 l E MX6_seesName 0 [vR E 23] G D (fun r2 D2 => ((-2147483648 ≤ r2 ∧ r2 < 2147483648)) ∧ ((r2 ≠ 0 → C0 l E MX6_indexOfWord 0 [vR E 23, vR E 38, vI (D2 25 0)] G D2 (fun r6 D6 => ((-2147483648 ≤ r6 ∧ r6 < 2147483648)) ∧ ((r6 ≠ (-1) → ((0 ≤ r6 ∧ r6 < 10)) ∧ (((D6 30 r6) = (-1) → ((-2147483648 ≤ v1 ∧ v1 < 2147483648)) ∧ C0 l E MX6_step 2 [vR E 23] G (upd2 D6 30 r6 v1) (fun r13 D13 => Q 0 G D13)) ∧ ((D6 30 r6) ≠ (-1) → C0 l E MX6_stop 2 [vR E 23, vI 6] G D6 (fun r16 D16 => Q 0 G D16)))) ∧ (r6 = (-1) → C0 l E MX6_stop 2 [vR E 23, vI 3] G D6 (fun r19 D19 => Q 0 G D19))))) ∧ (r2 = 0 → C0 l E MX6_stop 2 [vR E 23, vI 2] G D2 (fun r22 D22 => Q 0 G D22))))) : Ct l E MX6_readHeld 2 0 0 [vR E 23, vI v1] G D Q := by
  refine Ct.of (by decide) (Nat.le_of_ble_eq_true rfl) ?_
  show KX6_readHeld l E Q 0 [(0, vR E 23), (1, vI v1)] G D
  refine go_aload_n 0 dX6_readHeld_0 rfl rfl ?_
  refine go_vI (M := MX6_seesName) [] [] mv_X6_192 (hL.1 23 _ rfl) rfl (by decide) ⟨Nat.le_of_ble_eq_true rfl, Nat.le_of_ble_eq_true rfl⟩ ⟨Nat.le_refl _, Nat.le_refl _⟩ rfl rfl (Nat.le_of_ble_eq_true rfl) dX6_readHeld_1 h (fun r2 D2 h => ?_)
  obtain ⟨s3, h⟩ := h
  refine go_if_ne 13 dX6_readHeld_4 (by decide) s3 (fun c4 => ?_) (fun c4 => ?_)
  · have h := h.1 c4
    refine go_aload_n 0 dX6_readHeld_13 rfl rfl ?_
    refine go_aload_n 0 dX6_readHeld_14 rfl rfl ?_
    refine go_getR 11 f_X6_51 rfl (hL.1 23 _ rfl) (hL.2.1 23 11 _ rfl (by decide)) dX6_readHeld_15 ?_
    refine go_aload_n 0 dX6_readHeld_18 rfl rfl ?_
    refine go_getR 2 f_X6_22 rfl (hL.1 23 _ rfl) (hL.2.1 23 2 _ rfl (by decide)) dX6_readHeld_19 ?_
    refine go_getI 0 (i := 0) f_X6_104 rfl (hL.1 25 _ rfl) dX6_readHeld_22 ?_
    refine go_vI (M := MX6_indexOfWord) [vR E 38, vI (D2 25 0)] [] mv_X6_196 (hL.1 23 _ rfl) rfl (by decide) ⟨Nat.le_of_ble_eq_true rfl, Nat.le_of_ble_eq_true rfl⟩ ⟨Nat.le_refl _, Nat.le_refl _⟩ rfl rfl (Nat.le_of_ble_eq_true rfl) dX6_readHeld_25 h (fun r6 D6 h => ?_)
    obtain ⟨s7, h⟩ := h
    refine go_istore_n [1, 2, 0] (L' := [(0, vR E 23), (1, vI v1), (2, vI r6)]) dX6_readHeld_28 rfl (by decide) rfl ?_
    refine go_iload_n 2 dX6_readHeld_29 rfl rfl ?_
    refine go_iconst dX6_readHeld_30 ?_
    refine go_icmp_ne 42 dX6_readHeld_31 (by decide) s7 (by decide) (fun c8 => ?_) (fun c8 => ?_)
    · have h := h.1 c8
      obtain ⟨s9, h⟩ := h
      refine go_aload_n 0 dX6_readHeld_42 rfl rfl ?_
      refine go_getR 2 f_X6_22 rfl (hL.1 23 _ rfl) (hL.2.1 23 2 _ rfl (by decide)) dX6_readHeld_43 ?_
      refine go_getR 9 f_X6_143 rfl (hL.1 25 _ rfl) (hL.2.1 25 9 _ rfl (by decide)) dX6_readHeld_46 ?_
      refine go_iload_n 2 dX6_readHeld_49 rfl rfl ?_
      refine go_iaload (hL.1 30 _ rfl) (b := 10) rfl (by decide) s9 dX6_readHeld_50 ?_
      refine go_iconst dX6_readHeld_51 ?_
      refine go_rngI (c := 30) (i := r6) (hL.1 30 _ rfl) rfl (fun (q10 : -2147483648 ≤ (D6 30 r6) ∧ (D6 30 r6) < 2147483648) => ?_)
      refine go_icmp_eq 64 dX6_readHeld_52 (by decide) q10 (by decide) (fun c11 => ?_) (fun c11 => ?_)
      · have h := h.1 c11
        obtain ⟨s12, h⟩ := h
        refine go_aload_n 0 dX6_readHeld_64 rfl rfl ?_
        refine go_getR 2 f_X6_22 rfl (hL.1 23 _ rfl) (hL.2.1 23 2 _ rfl (by decide)) dX6_readHeld_65 ?_
        refine go_getR 9 f_X6_143 rfl (hL.1 25 _ rfl) (hL.2.1 25 9 _ rfl (by decide)) dX6_readHeld_68 ?_
        refine go_iload_n 2 dX6_readHeld_71 rfl rfl ?_
        refine go_iload_n 1 dX6_readHeld_72 rfl rfl ?_
        refine go_iastore (hL.1 30 _ rfl) (b := 10) rfl (by decide) s9 s12 dX6_readHeld_73 ?_
        refine go_aload_n 0 dX6_readHeld_74 rfl rfl ?_
        refine go_vV (M := MX6_step) [] [] mv_X6_74 (hL.1 23 _ rfl) rfl (by decide) ⟨Nat.le_of_ble_eq_true rfl, Nat.le_of_ble_eq_true rfl⟩ ⟨Nat.le_refl _, Nat.le_refl _⟩ rfl rfl (Nat.le_of_ble_eq_true rfl) dX6_readHeld_75 h (fun r13 D13 h => ?_)
        exact go_return (Nat.le_refl _) (Nat.le_refl _) rfl dX6_readHeld_78 h
      · have h := h.2 c11
        refine go_aload_n 0 dX6_readHeld_55 rfl rfl ?_
        refine go_bipush dX6_readHeld_56 (by decide) ?_
        refine go_vV (M := MX6_stop) [vI 6] [] mv_X6_107 (hL.1 23 _ rfl) rfl (by decide) ⟨Nat.le_of_ble_eq_true rfl, Nat.le_of_ble_eq_true rfl⟩ ⟨Nat.le_refl _, Nat.le_refl _⟩ rfl rfl (Nat.le_of_ble_eq_true rfl) dX6_readHeld_58 h (fun r16 D16 h => ?_)
        refine go_goto 78 dX6_readHeld_61 (by decide) ?_
        exact go_return (Nat.le_refl _) (Nat.le_refl _) rfl dX6_readHeld_78 h
    · have h := h.2 c8
      refine go_aload_n 0 dX6_readHeld_34 rfl rfl ?_
      refine go_iconst dX6_readHeld_35 ?_
      refine go_vV (M := MX6_stop) [vI 3] [] mv_X6_107 (hL.1 23 _ rfl) rfl (by decide) ⟨Nat.le_of_ble_eq_true rfl, Nat.le_of_ble_eq_true rfl⟩ ⟨Nat.le_refl _, Nat.le_refl _⟩ rfl rfl (Nat.le_of_ble_eq_true rfl) dX6_readHeld_36 h (fun r19 D19 h => ?_)
      refine go_goto 78 dX6_readHeld_39 (by decide) ?_
      exact go_return (Nat.le_refl _) (Nat.le_refl _) rfl dX6_readHeld_78 h
  · have h := h.2 c4
    refine go_aload_n 0 dX6_readHeld_7 rfl rfl ?_
    refine go_iconst dX6_readHeld_8 ?_
    refine go_vV (M := MX6_stop) [vI 2] [] mv_X6_107 (hL.1 23 _ rfl) rfl (by decide) ⟨Nat.le_of_ble_eq_true rfl, Nat.le_of_ble_eq_true rfl⟩ ⟨Nat.le_refl _, Nat.le_refl _⟩ rfl rfl (Nat.le_of_ble_eq_true rfl) dX6_readHeld_9 h (fun r22 D22 h => ?_)
    exact go_return (Nat.le_refl _) (Nat.le_refl _) rfl dX6_readHeld_12 h
theorem s_X6_readFamily {l : Launch} {E : Ev} {Q : Int → Sh → Dm → Prop} {G : Sh} {D : Dm} (hL : Lay G)  (h : (((D 25 2) < 4 → C0 l E MX6_step 2 [vR E 23] G D (fun r5 D5 => C0 l E MX6_readNewName 1 [vR E 23, vR E 39, vI (D 25 2)] G D5 (fun r7 D7 => ((0 ≤ (D 25 2) ∧ (D 25 2) < 4) ∧ (-9223372036854775808 ≤ r7 ∧ r7 < 9223372036854775808)) ∧ C0 l E MX6_expectWord 2 [vR E 23, vJ 24948] G (upd2 D7 39 (D 25 2) r7) (fun r9 D9 => C0 l E MX6_readNumber 0 [vR E 23, vI 0, vI 99] G D9 (fun r11 D11 => ((-2147483648 ≤ r11 ∧ r11 < 2147483648)) ∧ C0 l E MX6_readNumber 0 [vR E 23, vI 0, vI 99] G (upd2 D11 35 (D 25 2) r11) (fun r13 D13 => ((-2147483648 ≤ r13 ∧ r13 < 2147483648)) ∧ C0 l E MX6_expectWord 2 [vR E 23, vJ 1852138852] G (upd2 D13 36 (D 25 2) r13) (fun r15 D15 => C0 l E MX6_readNumber 0 [vR E 23, vI 0, vI 99] G D15 (fun r17 D17 => ((-2147483648 ≤ r17 ∧ r17 < 2147483648)) ∧ KX6_readFamily l E Q 102 [(0, vR E 23), (1, vI (D 25 2)), (2, vI 0)] G (upd2 D17 37 (D 25 2) r17))))))))) ∧ (4 ≤ (D 25 2) → C0 l E MX6_stop 2 [vR E 23, vI 5] G D (fun r20 D20 => Q 0 G D20)))) : Ct l E MX6_readFamily 2 0 0 [vR E 23] G D Q := by
  refine Ct.of (by decide) (Nat.le_of_ble_eq_true rfl) ?_
  show KX6_readFamily l E Q 0 [(0, vR E 23)] G D
  refine go_aload_n 0 dX6_readFamily_0 rfl rfl ?_
  refine go_getR 2 f_X6_22 rfl (hL.1 23 _ rfl) (hL.2.1 23 2 _ rfl (by decide)) dX6_readFamily_1 ?_
  refine go_getI 2 (i := 2) f_X6_173 rfl (hL.1 25 _ rfl) dX6_readFamily_4 ?_
  refine go_istore_n [1, 0] (L' := [(0, vR E 23), (1, vI (D 25 2))]) dX6_readFamily_7 rfl (by decide) rfl ?_
  refine go_iload_n 1 dX6_readFamily_8 rfl rfl ?_
  refine go_iconst dX6_readFamily_9 ?_
  refine go_rngI (c := 25) (i := 2) (hL.1 25 _ rfl) rfl (fun (q2 : -2147483648 ≤ (D 25 2) ∧ (D 25 2) < 2147483648) => ?_)
  refine go_icmp_lt 19 dX6_readFamily_10 (by decide) q2 (by decide) (fun c3 => ?_) (fun c3 => ?_)
  · have h := h.1 c3
    refine go_aload_n 0 dX6_readFamily_19 rfl rfl ?_
    refine go_vV (M := MX6_step) [] [] mv_X6_74 (hL.1 23 _ rfl) rfl (by decide) ⟨Nat.le_of_ble_eq_true rfl, Nat.le_of_ble_eq_true rfl⟩ ⟨Nat.le_refl _, Nat.le_refl _⟩ rfl rfl (Nat.le_of_ble_eq_true rfl) dX6_readFamily_20 h (fun r5 D5 h => ?_)
    refine go_aload_n 0 dX6_readFamily_23 rfl rfl ?_
    refine go_getR 12 f_X6_55 rfl (hL.1 23 _ rfl) (hL.2.1 23 12 _ rfl (by decide)) dX6_readFamily_24 ?_
    refine go_iload_n 1 dX6_readFamily_27 rfl rfl ?_
    refine go_aload_n 0 dX6_readFamily_28 rfl rfl ?_
    refine go_aload_n 0 dX6_readFamily_29 rfl rfl ?_
    refine go_getR 12 f_X6_55 rfl (hL.1 23 _ rfl) (hL.2.1 23 12 _ rfl (by decide)) dX6_readFamily_30 ?_
    refine go_iload_n 1 dX6_readFamily_33 rfl rfl ?_
    refine go_vJ (M := MX6_readNewName) [vR E 39, vI (D 25 2)] [vI (D 25 2), vR E 39] mv_X6_111 (hL.1 23 _ rfl) rfl (by decide) ⟨Nat.le_of_ble_eq_true rfl, Nat.le_of_ble_eq_true rfl⟩ ⟨Nat.le_refl _, Nat.le_refl _⟩ rfl rfl (Nat.le_of_ble_eq_true rfl) dX6_readFamily_34 h (fun r7 D7 h => ?_)
    obtain ⟨s8, h⟩ := h
    refine go_lastore (hL.1 39 _ rfl) (b := 4) rfl (by decide) s8.1 s8.2 dX6_readFamily_37 ?_
    refine go_aload_n 0 dX6_readFamily_38 rfl rfl ?_
    refine go_ldc2 (x := 24948) k_X6_115 dX6_readFamily_39 ?_
    refine go_vV (M := MX6_expectWord) [vJ 24948] [] mv_X6_117 (hL.1 23 _ rfl) rfl (by decide) ⟨Nat.le_of_ble_eq_true rfl, Nat.le_of_ble_eq_true rfl⟩ ⟨Nat.le_refl _, Nat.le_refl _⟩ rfl rfl (Nat.le_of_ble_eq_true rfl) dX6_readFamily_42 h (fun r9 D9 h => ?_)
    refine go_aload_n 0 dX6_readFamily_45 rfl rfl ?_
    refine go_getR 2 f_X6_22 rfl (hL.1 23 _ rfl) (hL.2.1 23 2 _ rfl (by decide)) dX6_readFamily_46 ?_
    refine go_getR 14 f_X6_176 rfl (hL.1 25 _ rfl) (hL.2.1 25 14 _ rfl (by decide)) dX6_readFamily_49 ?_
    refine go_iload_n 1 dX6_readFamily_52 rfl rfl ?_
    refine go_aload_n 0 dX6_readFamily_53 rfl rfl ?_
    refine go_iconst dX6_readFamily_54 ?_
    refine go_bipush dX6_readFamily_55 (by decide) ?_
    refine go_vI (M := MX6_readNumber) [vI 0, vI 99] [vI (D 25 2), vR E 35] mv_X6_124 (hL.1 23 _ rfl) rfl (by decide) ⟨Nat.le_of_ble_eq_true rfl, Nat.le_of_ble_eq_true rfl⟩ ⟨Nat.le_refl _, Nat.le_refl _⟩ rfl rfl (Nat.le_of_ble_eq_true rfl) dX6_readFamily_57 h (fun r11 D11 h => ?_)
    obtain ⟨s12, h⟩ := h
    refine go_iastore (hL.1 35 _ rfl) (b := 4) rfl (by decide) s8.1 s12 dX6_readFamily_60 ?_
    refine go_aload_n 0 dX6_readFamily_61 rfl rfl ?_
    refine go_getR 2 f_X6_22 rfl (hL.1 23 _ rfl) (hL.2.1 23 2 _ rfl (by decide)) dX6_readFamily_62 ?_
    refine go_getR 15 f_X6_179 rfl (hL.1 25 _ rfl) (hL.2.1 25 15 _ rfl (by decide)) dX6_readFamily_65 ?_
    refine go_iload_n 1 dX6_readFamily_68 rfl rfl ?_
    refine go_aload_n 0 dX6_readFamily_69 rfl rfl ?_
    refine go_iconst dX6_readFamily_70 ?_
    refine go_bipush dX6_readFamily_71 (by decide) ?_
    refine go_vI (M := MX6_readNumber) [vI 0, vI 99] [vI (D 25 2), vR E 36] mv_X6_124 (hL.1 23 _ rfl) rfl (by decide) ⟨Nat.le_of_ble_eq_true rfl, Nat.le_of_ble_eq_true rfl⟩ ⟨Nat.le_refl _, Nat.le_refl _⟩ rfl rfl (Nat.le_of_ble_eq_true rfl) dX6_readFamily_73 h (fun r13 D13 h => ?_)
    obtain ⟨s14, h⟩ := h
    refine go_iastore (hL.1 36 _ rfl) (b := 4) rfl (by decide) s8.1 s14 dX6_readFamily_76 ?_
    refine go_aload_n 0 dX6_readFamily_77 rfl rfl ?_
    refine go_ldc2 (x := 1852138852) k_X6_182 dX6_readFamily_78 ?_
    refine go_vV (M := MX6_expectWord) [vJ 1852138852] [] mv_X6_117 (hL.1 23 _ rfl) rfl (by decide) ⟨Nat.le_of_ble_eq_true rfl, Nat.le_of_ble_eq_true rfl⟩ ⟨Nat.le_refl _, Nat.le_refl _⟩ rfl rfl (Nat.le_of_ble_eq_true rfl) dX6_readFamily_81 h (fun r15 D15 h => ?_)
    refine go_aload_n 0 dX6_readFamily_84 rfl rfl ?_
    refine go_getR 2 f_X6_22 rfl (hL.1 23 _ rfl) (hL.2.1 23 2 _ rfl (by decide)) dX6_readFamily_85 ?_
    refine go_getR 16 f_X6_184 rfl (hL.1 25 _ rfl) (hL.2.1 25 16 _ rfl (by decide)) dX6_readFamily_88 ?_
    refine go_iload_n 1 dX6_readFamily_91 rfl rfl ?_
    refine go_aload_n 0 dX6_readFamily_92 rfl rfl ?_
    refine go_iconst dX6_readFamily_93 ?_
    refine go_bipush dX6_readFamily_94 (by decide) ?_
    refine go_vI (M := MX6_readNumber) [vI 0, vI 99] [vI (D 25 2), vR E 37] mv_X6_124 (hL.1 23 _ rfl) rfl (by decide) ⟨Nat.le_of_ble_eq_true rfl, Nat.le_of_ble_eq_true rfl⟩ ⟨Nat.le_refl _, Nat.le_refl _⟩ rfl rfl (Nat.le_of_ble_eq_true rfl) dX6_readFamily_96 h (fun r17 D17 h => ?_)
    obtain ⟨s18, h⟩ := h
    refine go_iastore (hL.1 37 _ rfl) (b := 4) rfl (by decide) s8.1 s18 dX6_readFamily_99 ?_
    refine go_iconst dX6_readFamily_100 ?_
    refine go_istore_n [1, 2, 0] (L' := [(0, vR E 23), (1, vI (D 25 2)), (2, vI 0)]) dX6_readFamily_101 rfl (by decide) rfl ?_
    exact h
  · have h := h.2 c3
    refine go_aload_n 0 dX6_readFamily_13 rfl rfl ?_
    refine go_iconst dX6_readFamily_14 ?_
    refine go_vV (M := MX6_stop) [vI 5] [] mv_X6_107 (hL.1 23 _ rfl) rfl (by decide) ⟨Nat.le_of_ble_eq_true rfl, Nat.le_of_ble_eq_true rfl⟩ ⟨Nat.le_refl _, Nat.le_refl _⟩ rfl rfl (Nat.le_of_ble_eq_true rfl) dX6_readFamily_15 h (fun r20 D20 h => ?_)
    exact go_return (Nat.le_refl _) (Nat.le_refl _) rfl dX6_readFamily_18 h
theorem s_X6_readFamily_102 {l : Launch} {E : Ev} {Q : Int → Sh → Dm → Prop} {G : Sh} {D : Dm} (hL : Lay G) {v1 v2 : Int}  (h : ((-2147483648 ≤ v2 ∧ v2 < 2147483648)) ∧ ((600 < v2 → C0 l E MX6_expectSign 2 [vR E 23] G D (fun r4 D4 => ((-2147483648 ≤ (v1 + 1) ∧ (v1 + 1) < 2147483648)) ∧ Q 0 G (upd2 D4 25 2 (v1 + 1)))) ∧ (v2 ≤ 600 → ((¬ (((D 23 3) = 0) ∧ (((D 23 7) = 1) ∧ ((D 23 10) = 448545973363))) → C0 l E MX6_expectSign 2 [vR E 23] G D (fun r10 D10 => ((-2147483648 ≤ (v1 + 1) ∧ (v1 + 1) < 2147483648)) ∧ Q 0 G (upd2 D10 25 2 (v1 + 1)))) ∧ ((((D 23 3) = 0) ∧ (((D 23 7) = 1) ∧ ((D 23 10) = 448545973363))) → C0 l E MX6_step 2 [vR E 23] G D (fun r13 D13 => C0 l E MX6_readHeld 2 [vR E 23, vI v1] G D13 (fun r15 D15 => KX6_readFamily l E Q 102 [(0, vR E 23), (1, vI v1), (2, vI (v2 + 1))] G D15))))))) : KX6_readFamily l E Q 102 [(0, vR E 23), (1, vI v1), (2, vI v2)] G D := by
  obtain ⟨s1, h⟩ := h
  refine go_iload_n 2 dX6_readFamily_102 rfl rfl ?_
  refine go_sipush dX6_readFamily_103 (by decide) ?_
  refine go_icmp_gt 134 dX6_readFamily_106 (by decide) s1 (by decide) (fun c2 => ?_) (fun c2 => ?_)
  · have h := h.1 c2
    refine go_aload_n 0 dX6_readFamily_134 rfl rfl ?_
    refine go_vV (M := MX6_expectSign) [] [] mv_X6_140 (hL.1 23 _ rfl) rfl (by decide) ⟨Nat.le_of_ble_eq_true rfl, Nat.le_of_ble_eq_true rfl⟩ ⟨Nat.le_refl _, Nat.le_refl _⟩ rfl rfl (Nat.le_of_ble_eq_true rfl) dX6_readFamily_135 h (fun r4 D4 h => ?_)
    obtain ⟨s5, h⟩ := h
    refine go_aload_n 0 dX6_readFamily_138 rfl rfl ?_
    refine go_getR 2 f_X6_22 rfl (hL.1 23 _ rfl) (hL.2.1 23 2 _ rfl (by decide)) dX6_readFamily_139 ?_
    refine go_iload_n 1 dX6_readFamily_142 rfl rfl ?_
    refine go_iconst dX6_readFamily_143 ?_
    refine go_iadd dX6_readFamily_144 ?_
    refine go_putI 2 (i := 2) s5 f_X6_173 rfl (hL.1 25 _ rfl) dX6_readFamily_145 ?_
    exact go_return (Nat.le_refl _) (Nat.le_refl _) rfl dX6_readFamily_148 h
  · have h := h.2 c2
    refine go_aload_n 0 dX6_readFamily_109 rfl rfl ?_
    refine go_ldc2 (x := 448545973363) k_X6_187 dX6_readFamily_110 ?_
    refine go_vIp (M := MX6_sees) [vJ 448545973363] [] mv_X6_79 (hL.1 23 _ rfl) rfl (by decide) ⟨Nat.le_of_ble_eq_true rfl, Nat.le_of_ble_eq_true rfl⟩ ⟨Nat.le_refl _, Nat.le_refl _⟩ rfl rfl (Nat.le_of_ble_eq_true rfl) dX6_readFamily_113 (p_X6_sees hL (by decide)) ?_
    refine go_ifb_eq 134 dX6_readFamily_116 (by decide) (fun c8 => ?_) (fun c8 => ?_)
    · have h := h.1 c8
      refine go_aload_n 0 dX6_readFamily_134 rfl rfl ?_
      refine go_vV (M := MX6_expectSign) [] [] mv_X6_140 (hL.1 23 _ rfl) rfl (by decide) ⟨Nat.le_of_ble_eq_true rfl, Nat.le_of_ble_eq_true rfl⟩ ⟨Nat.le_refl _, Nat.le_refl _⟩ rfl rfl (Nat.le_of_ble_eq_true rfl) dX6_readFamily_135 h (fun r10 D10 h => ?_)
      obtain ⟨s11, h⟩ := h
      refine go_aload_n 0 dX6_readFamily_138 rfl rfl ?_
      refine go_getR 2 f_X6_22 rfl (hL.1 23 _ rfl) (hL.2.1 23 2 _ rfl (by decide)) dX6_readFamily_139 ?_
      refine go_iload_n 1 dX6_readFamily_142 rfl rfl ?_
      refine go_iconst dX6_readFamily_143 ?_
      refine go_iadd dX6_readFamily_144 ?_
      refine go_putI 2 (i := 2) s11 f_X6_173 rfl (hL.1 25 _ rfl) dX6_readFamily_145 ?_
      exact go_return (Nat.le_refl _) (Nat.le_refl _) rfl dX6_readFamily_148 h
    · have h := h.2 c8
      refine go_aload_n 0 dX6_readFamily_119 rfl rfl ?_
      refine go_vV (M := MX6_step) [] [] mv_X6_74 (hL.1 23 _ rfl) rfl (by decide) ⟨Nat.le_of_ble_eq_true rfl, Nat.le_of_ble_eq_true rfl⟩ ⟨Nat.le_refl _, Nat.le_refl _⟩ rfl rfl (Nat.le_of_ble_eq_true rfl) dX6_readFamily_120 h (fun r13 D13 h => ?_)
      refine go_aload_n 0 dX6_readFamily_123 rfl rfl ?_
      refine go_iload_n 1 dX6_readFamily_124 rfl rfl ?_
      refine go_vV (M := MX6_readHeld) [vI v1] [] mv_X6_189 (hL.1 23 _ rfl) rfl (by decide) ⟨Nat.le_of_ble_eq_true rfl, Nat.le_of_ble_eq_true rfl⟩ ⟨Nat.le_refl _, Nat.le_refl _⟩ rfl rfl (Nat.le_of_ble_eq_true rfl) dX6_readFamily_125 h (fun r15 D15 h => ?_)
      refine go_iinc 2 [1, 2, 0] (L' := [(0, vR E 23), (1, vI v1), (2, vI (v2 + 1))]) dX6_readFamily_128 (by decide) rfl rfl ?_
      refine go_goto 102 dX6_readFamily_131 (by decide) ?_
      exact h
theorem s_X6_kindOfHarm {l : Launch} {E : Ev} {Q : Int → Sh → Dm → Prop} {G : Sh} {D : Dm} (hL : Lay G)  (h : ((¬ (((D 23 3) = 0) ∧ (((D 23 7) = 1) ∧ ((D 23 10) = 1751214444))) → ((¬ (((D 23 3) = 0) ∧ (((D 23 7) = 1) ∧ ((D 23 10) = 440006570868))) → ((¬ (((D 23 3) = 0) ∧ (((D 23 7) = 1) ∧ ((D 23 10) = 6582905))) → ((¬ (((D 23 3) = 0) ∧ (((D 23 7) = 1) ∧ ((D 23 10) = 108217764374644))) → Q (-1) G D) ∧ ((((D 23 3) = 0) ∧ (((D 23 7) = 1) ∧ ((D 23 10) = 108217764374644))) → Q 3 G D))) ∧ ((((D 23 3) = 0) ∧ (((D 23 7) = 1) ∧ ((D 23 10) = 6582905))) → Q 2 G D))) ∧ ((((D 23 3) = 0) ∧ (((D 23 7) = 1) ∧ ((D 23 10) = 440006570868))) → Q 1 G D))) ∧ ((((D 23 3) = 0) ∧ (((D 23 7) = 1) ∧ ((D 23 10) = 1751214444))) → Q 0 G D))) : Ct l E MX6_kindOfHarm 0 0 0 [vR E 23] G D Q := by
  refine Ct.of (by decide) (Nat.le_of_ble_eq_true rfl) ?_
  show KX6_kindOfHarm l E Q 0 [(0, vR E 23)] G D
  refine go_aload_n 0 dX6_kindOfHarm_0 rfl rfl ?_
  refine go_ldc2 (x := 1751214444) k_X6_165 dX6_kindOfHarm_1 ?_
  refine go_vIp (M := MX6_sees) [vJ 1751214444] [] mv_X6_79 (hL.1 23 _ rfl) rfl (by decide) ⟨Nat.le_of_ble_eq_true rfl, Nat.le_of_ble_eq_true rfl⟩ ⟨Nat.le_refl _, Nat.le_refl _⟩ rfl rfl (Nat.le_of_ble_eq_true rfl) dX6_kindOfHarm_4 (p_X6_sees hL (by decide)) ?_
  refine go_ifb_eq 12 dX6_kindOfHarm_7 (by decide) (fun c3 => ?_) (fun c3 => ?_)
  · have h := h.1 c3
    refine go_aload_n 0 dX6_kindOfHarm_12 rfl rfl ?_
    refine go_ldc2 (x := 440006570868) k_X6_167 dX6_kindOfHarm_13 ?_
    refine go_vIp (M := MX6_sees) [vJ 440006570868] [] mv_X6_79 (hL.1 23 _ rfl) rfl (by decide) ⟨Nat.le_of_ble_eq_true rfl, Nat.le_of_ble_eq_true rfl⟩ ⟨Nat.le_refl _, Nat.le_refl _⟩ rfl rfl (Nat.le_of_ble_eq_true rfl) dX6_kindOfHarm_16 (p_X6_sees hL (by decide)) ?_
    refine go_ifb_eq 24 dX6_kindOfHarm_19 (by decide) (fun c6 => ?_) (fun c6 => ?_)
    · have h := h.1 c6
      refine go_aload_n 0 dX6_kindOfHarm_24 rfl rfl ?_
      refine go_ldc2 (x := 6582905) k_X6_169 dX6_kindOfHarm_25 ?_
      refine go_vIp (M := MX6_sees) [vJ 6582905] [] mv_X6_79 (hL.1 23 _ rfl) rfl (by decide) ⟨Nat.le_of_ble_eq_true rfl, Nat.le_of_ble_eq_true rfl⟩ ⟨Nat.le_refl _, Nat.le_refl _⟩ rfl rfl (Nat.le_of_ble_eq_true rfl) dX6_kindOfHarm_28 (p_X6_sees hL (by decide)) ?_
      refine go_ifb_eq 36 dX6_kindOfHarm_31 (by decide) (fun c9 => ?_) (fun c9 => ?_)
      · have h := h.1 c9
        refine go_aload_n 0 dX6_kindOfHarm_36 rfl rfl ?_
        refine go_ldc2 (x := 108217764374644) k_X6_171 dX6_kindOfHarm_37 ?_
        refine go_vIp (M := MX6_sees) [vJ 108217764374644] [] mv_X6_79 (hL.1 23 _ rfl) rfl (by decide) ⟨Nat.le_of_ble_eq_true rfl, Nat.le_of_ble_eq_true rfl⟩ ⟨Nat.le_refl _, Nat.le_refl _⟩ rfl rfl (Nat.le_of_ble_eq_true rfl) dX6_kindOfHarm_40 (p_X6_sees hL (by decide)) ?_
        refine go_ifb_eq 50 dX6_kindOfHarm_43 (by decide) (fun c12 => ?_) (fun c12 => ?_)
        · have h := h.1 c12
          refine go_iconst dX6_kindOfHarm_50 ?_
          exact go_ireturn (Nat.le_refl _) (Nat.le_refl _) rfl dX6_kindOfHarm_51 h
        · have h := h.2 c12
          refine go_iconst dX6_kindOfHarm_46 ?_
          refine go_goto 51 dX6_kindOfHarm_47 (by decide) ?_
          exact go_ireturn (Nat.le_refl _) (Nat.le_refl _) rfl dX6_kindOfHarm_51 h
      · have h := h.2 c9
        refine go_iconst dX6_kindOfHarm_34 ?_
        exact go_ireturn (Nat.le_refl _) (Nat.le_refl _) rfl dX6_kindOfHarm_35 h
    · have h := h.2 c6
      refine go_iconst dX6_kindOfHarm_22 ?_
      exact go_ireturn (Nat.le_refl _) (Nat.le_refl _) rfl dX6_kindOfHarm_23 h
  · have h := h.2 c3
    refine go_iconst dX6_kindOfHarm_10 ?_
    exact go_ireturn (Nat.le_refl _) (Nat.le_refl _) rfl dX6_kindOfHarm_11 h
theorem s_X6_readHarm {l : Launch} {E : Ev} {Q : Int → Sh → Dm → Prop} {G : Sh} {D : Dm} (hL : Lay G)  (h : C0 l E MX6_kindOfHarm 0 [vR E 23] G D (fun r2 D2 => ((-2147483648 ≤ r2 ∧ r2 < 2147483648)) ∧ ((r2 = (-1) → ((r2 ≠ (-1) → C0 l E MX6_stop 2 [vR E 23, vI 5] G D2 (fun r8 D8 => Q 0 G D8)) ∧ (r2 = (-1) → C0 l E MX6_stop 2 [vR E 23, vI 2] G D2 (fun r11 D11 => Q 0 G D11)))) ∧ (r2 ≠ (-1) → ((-2147483648 ≤ (D 25 1) ∧ (D 25 1) < 2147483648)) ∧ (((D 25 1) < 6 → C0 l E MX6_step 2 [vR E 23] G D2 (fun r16 D16 => ((r2 ≠ 0 → ((r2 ≠ 1 → ((r2 ≠ 2 → C0 l E MX6_expectWord 2 [vR E 23, vJ 499850634611] G D16 (fun r24 D24 => C0 l E MX6_readNumber 0 [vR E 23, vI 0, vI 8] G D24 (fun r26 D26 => ((0 ≤ (D 25 1) ∧ (D 25 1) < 6) ∧ (-2147483648 ≤ r26 ∧ r26 < 2147483648)) ∧ C0 l E MX6_expectWord 2 [vR E 23, vJ 1868850291] G (upd2 D26 32 (D 25 1) r26) (fun r28 D28 => C0 l E MX6_readNumber 0 [vR E 23, vI 0, vI 16] G D28 (fun r30 D30 => ((-2147483648 ≤ r30 ∧ r30 < 2147483648)) ∧ C0 l E MX6_expectSign 2 [vR E 23] G (upd2 D30 33 (D 25 1) r30) (fun r32 D32 => ((-2147483648 ≤ ((D 25 1) + 1) ∧ ((D 25 1) + 1) < 2147483648)) ∧ Q 0 G (upd2 (upd2 D32 31 (D 25 1) r2) 25 1 ((D 25 1) + 1)))))))) ∧ (r2 = 2 → C0 l E MX6_readNumber 0 [vR E 23, vI 1, vI 3] G D16 (fun r35 D35 => ((0 ≤ (D 25 1) ∧ (D 25 1) < 6) ∧ (-2147483648 ≤ r35 ∧ r35 < 2147483648)) ∧ C0 l E MX6_expectWord 2 [vR E 23, vJ 499850634611] G (upd2 D35 40 (D 25 1) r35) (fun r37 D37 => C0 l E MX6_readNumber 0 [vR E 23, vI 0, vI 8] G D37 (fun r39 D39 => ((-2147483648 ≤ r39 ∧ r39 < 2147483648)) ∧ C0 l E MX6_expectWord 2 [vR E 23, vJ 1868850291] G (upd2 D39 32 (D 25 1) r39) (fun r41 D41 => C0 l E MX6_readNumber 0 [vR E 23, vI 0, vI 16] G D41 (fun r43 D43 => ((-2147483648 ≤ r43 ∧ r43 < 2147483648)) ∧ C0 l E MX6_expectSign 2 [vR E 23] G (upd2 D43 33 (D 25 1) r43) (fun r45 D45 => ((-2147483648 ≤ ((D 25 1) + 1) ∧ ((D 25 1) + 1) < 2147483648)) ∧ Q 0 G (upd2 (upd2 D45 31 (D 25 1) r2) 25 1 ((D 25 1) + 1))))))))))) ∧ (r2 = 1 → C0 l E MX6_readNumber 0 [vR E 23, vI 0, vI 99] G D16 (fun r48 D48 => ((0 ≤ (D 25 1) ∧ (D 25 1) < 6) ∧ (-2147483648 ≤ r48 ∧ r48 < 2147483648)) ∧ C0 l E MX6_expectWord 2 [vR E 23, vJ 499850634611] G (upd2 D48 40 (D 25 1) r48) (fun r50 D50 => C0 l E MX6_readNumber 0 [vR E 23, vI 0, vI 8] G D50 (fun r52 D52 => ((-2147483648 ≤ r52 ∧ r52 < 2147483648)) ∧ C0 l E MX6_expectWord 2 [vR E 23, vJ 1868850291] G (upd2 D52 32 (D 25 1) r52) (fun r54 D54 => C0 l E MX6_readNumber 0 [vR E 23, vI 0, vI 16] G D54 (fun r56 D56 => ((-2147483648 ≤ r56 ∧ r56 < 2147483648)) ∧ C0 l E MX6_expectSign 2 [vR E 23] G (upd2 D56 33 (D 25 1) r56) (fun r58 D58 => ((-2147483648 ≤ ((D 25 1) + 1) ∧ ((D 25 1) + 1) < 2147483648)) ∧ Q 0 G (upd2 (upd2 D58 31 (D 25 1) r2) 25 1 ((D 25 1) + 1))))))))))) ∧ (r2 = 0 → C0 l E MX6_readNumber 0 [vR E 23, vI 0, vI 99] G D16 (fun r61 D61 => ((0 ≤ (D 25 1) ∧ (D 25 1) < 6) ∧ (-2147483648 ≤ r61 ∧ r61 < 2147483648)) ∧ C0 l E MX6_expectWord 2 [vR E 23, vJ 29807] G (upd2 D61 40 (D 25 1) r61) (fun r63 D63 => C0 l E MX6_readNumber 0 [vR E 23, vI (D63 40 (D 25 1)), vI 99] G D63 (fun r65 D65 => ((-2147483648 ≤ r65 ∧ r65 < 2147483648)) ∧ C0 l E MX6_expectWord 2 [vR E 23, vJ 499850634611] G (upd2 D65 41 (D 25 1) r65) (fun r67 D67 => C0 l E MX6_readNumber 0 [vR E 23, vI 0, vI 8] G D67 (fun r69 D69 => ((-2147483648 ≤ r69 ∧ r69 < 2147483648)) ∧ C0 l E MX6_expectWord 2 [vR E 23, vJ 1868850291] G (upd2 D69 32 (D 25 1) r69) (fun r71 D71 => C0 l E MX6_readNumber 0 [vR E 23, vI 0, vI 16] G D71 (fun r73 D73 => ((-2147483648 ≤ r73 ∧ r73 < 2147483648)) ∧ C0 l E MX6_expectSign 2 [vR E 23] G (upd2 D73 33 (D 25 1) r73) (fun r75 D75 => ((-2147483648 ≤ ((D 25 1) + 1) ∧ ((D 25 1) + 1) < 2147483648)) ∧ Q 0 G (upd2 (upd2 D75 31 (D 25 1) r2) 25 1 ((D 25 1) + 1)))))))))))))) ∧ (6 ≤ (D 25 1) → ((r2 ≠ (-1) → C0 l E MX6_stop 2 [vR E 23, vI 5] G D2 (fun r80 D80 => Q 0 G D80)) ∧ (r2 = (-1) → C0 l E MX6_stop 2 [vR E 23, vI 2] G D2 (fun r83 D83 => Q 0 G D83))))))))) : Ct l E MX6_readHarm 2 0 0 [vR E 23] G D Q := by
  refine Ct.of (by decide) (Nat.le_of_ble_eq_true rfl) ?_
  show KX6_readHarm l E Q 0 [(0, vR E 23)] G D
  refine go_aload_n 0 dX6_readHarm_0 rfl rfl ?_
  refine go_getR 2 f_X6_22 rfl (hL.1 23 _ rfl) (hL.2.1 23 2 _ rfl (by decide)) dX6_readHarm_1 ?_
  refine go_getI 1 (i := 1) f_X6_94 rfl (hL.1 25 _ rfl) dX6_readHarm_4 ?_
  refine go_istore_n [1, 0] (L' := [(0, vR E 23), (1, vI (D 25 1))]) dX6_readHarm_7 rfl (by decide) rfl ?_
  refine go_aload_n 0 dX6_readHarm_8 rfl rfl ?_
  refine go_vI (M := MX6_kindOfHarm) [] [] mv_X6_146 (hL.1 23 _ rfl) rfl (by decide) ⟨Nat.le_of_ble_eq_true rfl, Nat.le_of_ble_eq_true rfl⟩ ⟨Nat.le_refl _, Nat.le_refl _⟩ rfl rfl (Nat.le_of_ble_eq_true rfl) dX6_readHarm_9 h (fun r2 D2 h => ?_)
  obtain ⟨s3, h⟩ := h
  refine go_istore_n [1, 2, 0] (L' := [(0, vR E 23), (1, vI (D 25 1)), (2, vI r2)]) dX6_readHarm_12 rfl (by decide) rfl ?_
  refine go_iload_n 2 dX6_readHarm_13 rfl rfl ?_
  refine go_iconst dX6_readHarm_14 ?_
  refine go_icmp_eq 24 dX6_readHarm_15 (by decide) s3 (by decide) (fun c4 => ?_) (fun c4 => ?_)
  · have h := h.1 c4
    refine go_aload_n 0 dX6_readHarm_24 rfl rfl ?_
    refine go_iload_n 2 dX6_readHarm_25 rfl rfl ?_
    refine go_iconst dX6_readHarm_26 ?_
    refine go_icmp_ne 34 dX6_readHarm_27 (by decide) s3 (by decide) (fun c6 => ?_) (fun c6 => ?_)
    · have h := h.1 c6
      refine go_iconst dX6_readHarm_34 ?_
      refine go_vV (M := MX6_stop) [vI 5] [] mv_X6_107 (hL.1 23 _ rfl) rfl (by decide) ⟨Nat.le_of_ble_eq_true rfl, Nat.le_of_ble_eq_true rfl⟩ ⟨Nat.le_refl _, Nat.le_refl _⟩ rfl rfl (Nat.le_of_ble_eq_true rfl) dX6_readHarm_35 h (fun r8 D8 h => ?_)
      exact go_return (Nat.le_refl _) (Nat.le_refl _) rfl dX6_readHarm_38 h
    · have h := h.2 c6
      refine go_iconst dX6_readHarm_30 ?_
      refine go_goto 35 dX6_readHarm_31 (by decide) ?_
      refine go_vV (M := MX6_stop) [vI 2] [] mv_X6_107 (hL.1 23 _ rfl) rfl (by decide) ⟨Nat.le_of_ble_eq_true rfl, Nat.le_of_ble_eq_true rfl⟩ ⟨Nat.le_refl _, Nat.le_refl _⟩ rfl rfl (Nat.le_of_ble_eq_true rfl) dX6_readHarm_35 h (fun r11 D11 h => ?_)
      exact go_return (Nat.le_refl _) (Nat.le_refl _) rfl dX6_readHarm_38 h
  · have h := h.2 c4
    obtain ⟨s13, h⟩ := h
    refine go_iload_n 1 dX6_readHarm_18 rfl rfl ?_
    refine go_bipush dX6_readHarm_19 (by decide) ?_
    refine go_icmp_lt 39 dX6_readHarm_21 (by decide) s13 (by decide) (fun c14 => ?_) (fun c14 => ?_)
    · have h := h.1 c14
      refine go_aload_n 0 dX6_readHarm_39 rfl rfl ?_
      refine go_vV (M := MX6_step) [] [] mv_X6_74 (hL.1 23 _ rfl) rfl (by decide) ⟨Nat.le_of_ble_eq_true rfl, Nat.le_of_ble_eq_true rfl⟩ ⟨Nat.le_refl _, Nat.le_refl _⟩ rfl rfl (Nat.le_of_ble_eq_true rfl) dX6_readHarm_40 h (fun r16 D16 h => ?_)
      refine go_iload_n 2 dX6_readHarm_43 rfl rfl ?_
      refine go_if_ne 88 dX6_readHarm_44 (by decide) s3 (fun c18 => ?_) (fun c18 => ?_)
      · have h := h.1 c18
        refine go_iload_n 2 dX6_readHarm_88 rfl rfl ?_
        refine go_iconst dX6_readHarm_89 ?_
        refine go_icmp_ne 109 dX6_readHarm_90 (by decide) s3 (by decide) (fun c20 => ?_) (fun c20 => ?_)
        · have h := h.1 c20
          refine go_iload_n 2 dX6_readHarm_109 rfl rfl ?_
          refine go_iconst dX6_readHarm_110 ?_
          refine go_icmp_ne 126 dX6_readHarm_111 (by decide) s3 (by decide) (fun c22 => ?_) (fun c22 => ?_)
          · have h := h.1 c22
            refine go_aload_n 0 dX6_readHarm_126 rfl rfl ?_
            refine go_ldc2 (x := 499850634611) k_X6_152 dX6_readHarm_127 ?_
            refine go_vV (M := MX6_expectWord) [vJ 499850634611] [] mv_X6_117 (hL.1 23 _ rfl) rfl (by decide) ⟨Nat.le_of_ble_eq_true rfl, Nat.le_of_ble_eq_true rfl⟩ ⟨Nat.le_refl _, Nat.le_refl _⟩ rfl rfl (Nat.le_of_ble_eq_true rfl) dX6_readHarm_130 h (fun r24 D24 h => ?_)
            refine go_aload_n 0 dX6_readHarm_133 rfl rfl ?_
            refine go_getR 2 f_X6_22 rfl (hL.1 23 _ rfl) (hL.2.1 23 2 _ rfl (by decide)) dX6_readHarm_134 ?_
            refine go_getR 11 f_X6_154 rfl (hL.1 25 _ rfl) (hL.2.1 25 11 _ rfl (by decide)) dX6_readHarm_137 ?_
            refine go_iload_n 1 dX6_readHarm_140 rfl rfl ?_
            refine go_aload_n 0 dX6_readHarm_141 rfl rfl ?_
            refine go_iconst dX6_readHarm_142 ?_
            refine go_bipush dX6_readHarm_143 (by decide) ?_
            refine go_vI (M := MX6_readNumber) [vI 0, vI 8] [vI (D 25 1), vR E 32] mv_X6_124 (hL.1 23 _ rfl) rfl (by decide) ⟨Nat.le_of_ble_eq_true rfl, Nat.le_of_ble_eq_true rfl⟩ ⟨Nat.le_refl _, Nat.le_refl _⟩ rfl rfl (Nat.le_of_ble_eq_true rfl) dX6_readHarm_145 h (fun r26 D26 h => ?_)
            obtain ⟨s27, h⟩ := h
            refine go_iastore (hL.1 32 _ rfl) (b := 6) rfl (by decide) s27.1 s27.2 dX6_readHarm_148 ?_
            refine go_aload_n 0 dX6_readHarm_149 rfl rfl ?_
            refine go_ldc2 (x := 1868850291) k_X6_157 dX6_readHarm_150 ?_
            refine go_vV (M := MX6_expectWord) [vJ 1868850291] [] mv_X6_117 (hL.1 23 _ rfl) rfl (by decide) ⟨Nat.le_of_ble_eq_true rfl, Nat.le_of_ble_eq_true rfl⟩ ⟨Nat.le_refl _, Nat.le_refl _⟩ rfl rfl (Nat.le_of_ble_eq_true rfl) dX6_readHarm_153 h (fun r28 D28 h => ?_)
            refine go_aload_n 0 dX6_readHarm_156 rfl rfl ?_
            refine go_getR 2 f_X6_22 rfl (hL.1 23 _ rfl) (hL.2.1 23 2 _ rfl (by decide)) dX6_readHarm_157 ?_
            refine go_getR 12 f_X6_159 rfl (hL.1 25 _ rfl) (hL.2.1 25 12 _ rfl (by decide)) dX6_readHarm_160 ?_
            refine go_iload_n 1 dX6_readHarm_163 rfl rfl ?_
            refine go_aload_n 0 dX6_readHarm_164 rfl rfl ?_
            refine go_iconst dX6_readHarm_165 ?_
            refine go_bipush dX6_readHarm_166 (by decide) ?_
            refine go_vI (M := MX6_readNumber) [vI 0, vI 16] [vI (D 25 1), vR E 33] mv_X6_124 (hL.1 23 _ rfl) rfl (by decide) ⟨Nat.le_of_ble_eq_true rfl, Nat.le_of_ble_eq_true rfl⟩ ⟨Nat.le_refl _, Nat.le_refl _⟩ rfl rfl (Nat.le_of_ble_eq_true rfl) dX6_readHarm_168 h (fun r30 D30 h => ?_)
            obtain ⟨s31, h⟩ := h
            refine go_iastore (hL.1 33 _ rfl) (b := 6) rfl (by decide) s27.1 s31 dX6_readHarm_171 ?_
            refine go_aload_n 0 dX6_readHarm_172 rfl rfl ?_
            refine go_vV (M := MX6_expectSign) [] [] mv_X6_140 (hL.1 23 _ rfl) rfl (by decide) ⟨Nat.le_of_ble_eq_true rfl, Nat.le_of_ble_eq_true rfl⟩ ⟨Nat.le_refl _, Nat.le_refl _⟩ rfl rfl (Nat.le_of_ble_eq_true rfl) dX6_readHarm_173 h (fun r32 D32 h => ?_)
            obtain ⟨s33, h⟩ := h
            refine go_aload_n 0 dX6_readHarm_176 rfl rfl ?_
            refine go_getR 2 f_X6_22 rfl (hL.1 23 _ rfl) (hL.2.1 23 2 _ rfl (by decide)) dX6_readHarm_177 ?_
            refine go_getR 10 f_X6_162 rfl (hL.1 25 _ rfl) (hL.2.1 25 10 _ rfl (by decide)) dX6_readHarm_180 ?_
            refine go_iload_n 1 dX6_readHarm_183 rfl rfl ?_
            refine go_iload_n 2 dX6_readHarm_184 rfl rfl ?_
            refine go_iastore (hL.1 31 _ rfl) (b := 6) rfl (by decide) s27.1 s3 dX6_readHarm_185 ?_
            refine go_aload_n 0 dX6_readHarm_186 rfl rfl ?_
            refine go_getR 2 f_X6_22 rfl (hL.1 23 _ rfl) (hL.2.1 23 2 _ rfl (by decide)) dX6_readHarm_187 ?_
            refine go_iload_n 1 dX6_readHarm_190 rfl rfl ?_
            refine go_iconst dX6_readHarm_191 ?_
            refine go_iadd dX6_readHarm_192 ?_
            refine go_putI 1 (i := 1) s33 f_X6_94 rfl (hL.1 25 _ rfl) dX6_readHarm_193 ?_
            exact go_return (Nat.le_refl _) (Nat.le_refl _) rfl dX6_readHarm_196 h
          · have h := h.2 c22
            refine go_aload_n 0 dX6_readHarm_114 rfl rfl ?_
            refine go_getR 13 f_X6_58 rfl (hL.1 23 _ rfl) (hL.2.1 23 13 _ rfl (by decide)) dX6_readHarm_115 ?_
            refine go_iload_n 1 dX6_readHarm_118 rfl rfl ?_
            refine go_aload_n 0 dX6_readHarm_119 rfl rfl ?_
            refine go_iconst dX6_readHarm_120 ?_
            refine go_iconst dX6_readHarm_121 ?_
            refine go_vI (M := MX6_readNumber) [vI 1, vI 3] [vI (D 25 1), vR E 40] mv_X6_124 (hL.1 23 _ rfl) rfl (by decide) ⟨Nat.le_of_ble_eq_true rfl, Nat.le_of_ble_eq_true rfl⟩ ⟨Nat.le_refl _, Nat.le_refl _⟩ rfl rfl (Nat.le_of_ble_eq_true rfl) dX6_readHarm_122 h (fun r35 D35 h => ?_)
            obtain ⟨s36, h⟩ := h
            refine go_iastore (hL.1 40 _ rfl) (b := 6) rfl (by decide) s36.1 s36.2 dX6_readHarm_125 ?_
            refine go_aload_n 0 dX6_readHarm_126 rfl rfl ?_
            refine go_ldc2 (x := 499850634611) k_X6_152 dX6_readHarm_127 ?_
            refine go_vV (M := MX6_expectWord) [vJ 499850634611] [] mv_X6_117 (hL.1 23 _ rfl) rfl (by decide) ⟨Nat.le_of_ble_eq_true rfl, Nat.le_of_ble_eq_true rfl⟩ ⟨Nat.le_refl _, Nat.le_refl _⟩ rfl rfl (Nat.le_of_ble_eq_true rfl) dX6_readHarm_130 h (fun r37 D37 h => ?_)
            refine go_aload_n 0 dX6_readHarm_133 rfl rfl ?_
            refine go_getR 2 f_X6_22 rfl (hL.1 23 _ rfl) (hL.2.1 23 2 _ rfl (by decide)) dX6_readHarm_134 ?_
            refine go_getR 11 f_X6_154 rfl (hL.1 25 _ rfl) (hL.2.1 25 11 _ rfl (by decide)) dX6_readHarm_137 ?_
            refine go_iload_n 1 dX6_readHarm_140 rfl rfl ?_
            refine go_aload_n 0 dX6_readHarm_141 rfl rfl ?_
            refine go_iconst dX6_readHarm_142 ?_
            refine go_bipush dX6_readHarm_143 (by decide) ?_
            refine go_vI (M := MX6_readNumber) [vI 0, vI 8] [vI (D 25 1), vR E 32] mv_X6_124 (hL.1 23 _ rfl) rfl (by decide) ⟨Nat.le_of_ble_eq_true rfl, Nat.le_of_ble_eq_true rfl⟩ ⟨Nat.le_refl _, Nat.le_refl _⟩ rfl rfl (Nat.le_of_ble_eq_true rfl) dX6_readHarm_145 h (fun r39 D39 h => ?_)
            obtain ⟨s40, h⟩ := h
            refine go_iastore (hL.1 32 _ rfl) (b := 6) rfl (by decide) s36.1 s40 dX6_readHarm_148 ?_
            refine go_aload_n 0 dX6_readHarm_149 rfl rfl ?_
            refine go_ldc2 (x := 1868850291) k_X6_157 dX6_readHarm_150 ?_
            refine go_vV (M := MX6_expectWord) [vJ 1868850291] [] mv_X6_117 (hL.1 23 _ rfl) rfl (by decide) ⟨Nat.le_of_ble_eq_true rfl, Nat.le_of_ble_eq_true rfl⟩ ⟨Nat.le_refl _, Nat.le_refl _⟩ rfl rfl (Nat.le_of_ble_eq_true rfl) dX6_readHarm_153 h (fun r41 D41 h => ?_)
            refine go_aload_n 0 dX6_readHarm_156 rfl rfl ?_
            refine go_getR 2 f_X6_22 rfl (hL.1 23 _ rfl) (hL.2.1 23 2 _ rfl (by decide)) dX6_readHarm_157 ?_
            refine go_getR 12 f_X6_159 rfl (hL.1 25 _ rfl) (hL.2.1 25 12 _ rfl (by decide)) dX6_readHarm_160 ?_
            refine go_iload_n 1 dX6_readHarm_163 rfl rfl ?_
            refine go_aload_n 0 dX6_readHarm_164 rfl rfl ?_
            refine go_iconst dX6_readHarm_165 ?_
            refine go_bipush dX6_readHarm_166 (by decide) ?_
            refine go_vI (M := MX6_readNumber) [vI 0, vI 16] [vI (D 25 1), vR E 33] mv_X6_124 (hL.1 23 _ rfl) rfl (by decide) ⟨Nat.le_of_ble_eq_true rfl, Nat.le_of_ble_eq_true rfl⟩ ⟨Nat.le_refl _, Nat.le_refl _⟩ rfl rfl (Nat.le_of_ble_eq_true rfl) dX6_readHarm_168 h (fun r43 D43 h => ?_)
            obtain ⟨s44, h⟩ := h
            refine go_iastore (hL.1 33 _ rfl) (b := 6) rfl (by decide) s36.1 s44 dX6_readHarm_171 ?_
            refine go_aload_n 0 dX6_readHarm_172 rfl rfl ?_
            refine go_vV (M := MX6_expectSign) [] [] mv_X6_140 (hL.1 23 _ rfl) rfl (by decide) ⟨Nat.le_of_ble_eq_true rfl, Nat.le_of_ble_eq_true rfl⟩ ⟨Nat.le_refl _, Nat.le_refl _⟩ rfl rfl (Nat.le_of_ble_eq_true rfl) dX6_readHarm_173 h (fun r45 D45 h => ?_)
            obtain ⟨s46, h⟩ := h
            refine go_aload_n 0 dX6_readHarm_176 rfl rfl ?_
            refine go_getR 2 f_X6_22 rfl (hL.1 23 _ rfl) (hL.2.1 23 2 _ rfl (by decide)) dX6_readHarm_177 ?_
            refine go_getR 10 f_X6_162 rfl (hL.1 25 _ rfl) (hL.2.1 25 10 _ rfl (by decide)) dX6_readHarm_180 ?_
            refine go_iload_n 1 dX6_readHarm_183 rfl rfl ?_
            refine go_iload_n 2 dX6_readHarm_184 rfl rfl ?_
            refine go_iastore (hL.1 31 _ rfl) (b := 6) rfl (by decide) s36.1 s3 dX6_readHarm_185 ?_
            refine go_aload_n 0 dX6_readHarm_186 rfl rfl ?_
            refine go_getR 2 f_X6_22 rfl (hL.1 23 _ rfl) (hL.2.1 23 2 _ rfl (by decide)) dX6_readHarm_187 ?_
            refine go_iload_n 1 dX6_readHarm_190 rfl rfl ?_
            refine go_iconst dX6_readHarm_191 ?_
            refine go_iadd dX6_readHarm_192 ?_
            refine go_putI 1 (i := 1) s46 f_X6_94 rfl (hL.1 25 _ rfl) dX6_readHarm_193 ?_
            exact go_return (Nat.le_refl _) (Nat.le_refl _) rfl dX6_readHarm_196 h
        · have h := h.2 c20
          refine go_aload_n 0 dX6_readHarm_93 rfl rfl ?_
          refine go_getR 13 f_X6_58 rfl (hL.1 23 _ rfl) (hL.2.1 23 13 _ rfl (by decide)) dX6_readHarm_94 ?_
          refine go_iload_n 1 dX6_readHarm_97 rfl rfl ?_
          refine go_aload_n 0 dX6_readHarm_98 rfl rfl ?_
          refine go_iconst dX6_readHarm_99 ?_
          refine go_bipush dX6_readHarm_100 (by decide) ?_
          refine go_vI (M := MX6_readNumber) [vI 0, vI 99] [vI (D 25 1), vR E 40] mv_X6_124 (hL.1 23 _ rfl) rfl (by decide) ⟨Nat.le_of_ble_eq_true rfl, Nat.le_of_ble_eq_true rfl⟩ ⟨Nat.le_refl _, Nat.le_refl _⟩ rfl rfl (Nat.le_of_ble_eq_true rfl) dX6_readHarm_102 h (fun r48 D48 h => ?_)
          obtain ⟨s49, h⟩ := h
          refine go_iastore (hL.1 40 _ rfl) (b := 6) rfl (by decide) s49.1 s49.2 dX6_readHarm_105 ?_
          refine go_goto 126 dX6_readHarm_106 (by decide) ?_
          refine go_aload_n 0 dX6_readHarm_126 rfl rfl ?_
          refine go_ldc2 (x := 499850634611) k_X6_152 dX6_readHarm_127 ?_
          refine go_vV (M := MX6_expectWord) [vJ 499850634611] [] mv_X6_117 (hL.1 23 _ rfl) rfl (by decide) ⟨Nat.le_of_ble_eq_true rfl, Nat.le_of_ble_eq_true rfl⟩ ⟨Nat.le_refl _, Nat.le_refl _⟩ rfl rfl (Nat.le_of_ble_eq_true rfl) dX6_readHarm_130 h (fun r50 D50 h => ?_)
          refine go_aload_n 0 dX6_readHarm_133 rfl rfl ?_
          refine go_getR 2 f_X6_22 rfl (hL.1 23 _ rfl) (hL.2.1 23 2 _ rfl (by decide)) dX6_readHarm_134 ?_
          refine go_getR 11 f_X6_154 rfl (hL.1 25 _ rfl) (hL.2.1 25 11 _ rfl (by decide)) dX6_readHarm_137 ?_
          refine go_iload_n 1 dX6_readHarm_140 rfl rfl ?_
          refine go_aload_n 0 dX6_readHarm_141 rfl rfl ?_
          refine go_iconst dX6_readHarm_142 ?_
          refine go_bipush dX6_readHarm_143 (by decide) ?_
          refine go_vI (M := MX6_readNumber) [vI 0, vI 8] [vI (D 25 1), vR E 32] mv_X6_124 (hL.1 23 _ rfl) rfl (by decide) ⟨Nat.le_of_ble_eq_true rfl, Nat.le_of_ble_eq_true rfl⟩ ⟨Nat.le_refl _, Nat.le_refl _⟩ rfl rfl (Nat.le_of_ble_eq_true rfl) dX6_readHarm_145 h (fun r52 D52 h => ?_)
          obtain ⟨s53, h⟩ := h
          refine go_iastore (hL.1 32 _ rfl) (b := 6) rfl (by decide) s49.1 s53 dX6_readHarm_148 ?_
          refine go_aload_n 0 dX6_readHarm_149 rfl rfl ?_
          refine go_ldc2 (x := 1868850291) k_X6_157 dX6_readHarm_150 ?_
          refine go_vV (M := MX6_expectWord) [vJ 1868850291] [] mv_X6_117 (hL.1 23 _ rfl) rfl (by decide) ⟨Nat.le_of_ble_eq_true rfl, Nat.le_of_ble_eq_true rfl⟩ ⟨Nat.le_refl _, Nat.le_refl _⟩ rfl rfl (Nat.le_of_ble_eq_true rfl) dX6_readHarm_153 h (fun r54 D54 h => ?_)
          refine go_aload_n 0 dX6_readHarm_156 rfl rfl ?_
          refine go_getR 2 f_X6_22 rfl (hL.1 23 _ rfl) (hL.2.1 23 2 _ rfl (by decide)) dX6_readHarm_157 ?_
          refine go_getR 12 f_X6_159 rfl (hL.1 25 _ rfl) (hL.2.1 25 12 _ rfl (by decide)) dX6_readHarm_160 ?_
          refine go_iload_n 1 dX6_readHarm_163 rfl rfl ?_
          refine go_aload_n 0 dX6_readHarm_164 rfl rfl ?_
          refine go_iconst dX6_readHarm_165 ?_
          refine go_bipush dX6_readHarm_166 (by decide) ?_
          refine go_vI (M := MX6_readNumber) [vI 0, vI 16] [vI (D 25 1), vR E 33] mv_X6_124 (hL.1 23 _ rfl) rfl (by decide) ⟨Nat.le_of_ble_eq_true rfl, Nat.le_of_ble_eq_true rfl⟩ ⟨Nat.le_refl _, Nat.le_refl _⟩ rfl rfl (Nat.le_of_ble_eq_true rfl) dX6_readHarm_168 h (fun r56 D56 h => ?_)
          obtain ⟨s57, h⟩ := h
          refine go_iastore (hL.1 33 _ rfl) (b := 6) rfl (by decide) s49.1 s57 dX6_readHarm_171 ?_
          refine go_aload_n 0 dX6_readHarm_172 rfl rfl ?_
          refine go_vV (M := MX6_expectSign) [] [] mv_X6_140 (hL.1 23 _ rfl) rfl (by decide) ⟨Nat.le_of_ble_eq_true rfl, Nat.le_of_ble_eq_true rfl⟩ ⟨Nat.le_refl _, Nat.le_refl _⟩ rfl rfl (Nat.le_of_ble_eq_true rfl) dX6_readHarm_173 h (fun r58 D58 h => ?_)
          obtain ⟨s59, h⟩ := h
          refine go_aload_n 0 dX6_readHarm_176 rfl rfl ?_
          refine go_getR 2 f_X6_22 rfl (hL.1 23 _ rfl) (hL.2.1 23 2 _ rfl (by decide)) dX6_readHarm_177 ?_
          refine go_getR 10 f_X6_162 rfl (hL.1 25 _ rfl) (hL.2.1 25 10 _ rfl (by decide)) dX6_readHarm_180 ?_
          refine go_iload_n 1 dX6_readHarm_183 rfl rfl ?_
          refine go_iload_n 2 dX6_readHarm_184 rfl rfl ?_
          refine go_iastore (hL.1 31 _ rfl) (b := 6) rfl (by decide) s49.1 s3 dX6_readHarm_185 ?_
          refine go_aload_n 0 dX6_readHarm_186 rfl rfl ?_
          refine go_getR 2 f_X6_22 rfl (hL.1 23 _ rfl) (hL.2.1 23 2 _ rfl (by decide)) dX6_readHarm_187 ?_
          refine go_iload_n 1 dX6_readHarm_190 rfl rfl ?_
          refine go_iconst dX6_readHarm_191 ?_
          refine go_iadd dX6_readHarm_192 ?_
          refine go_putI 1 (i := 1) s59 f_X6_94 rfl (hL.1 25 _ rfl) dX6_readHarm_193 ?_
          exact go_return (Nat.le_refl _) (Nat.le_refl _) rfl dX6_readHarm_196 h
      · have h := h.2 c18
        refine go_aload_n 0 dX6_readHarm_47 rfl rfl ?_
        refine go_getR 13 f_X6_58 rfl (hL.1 23 _ rfl) (hL.2.1 23 13 _ rfl (by decide)) dX6_readHarm_48 ?_
        refine go_iload_n 1 dX6_readHarm_51 rfl rfl ?_
        refine go_aload_n 0 dX6_readHarm_52 rfl rfl ?_
        refine go_iconst dX6_readHarm_53 ?_
        refine go_bipush dX6_readHarm_54 (by decide) ?_
        refine go_vI (M := MX6_readNumber) [vI 0, vI 99] [vI (D 25 1), vR E 40] mv_X6_124 (hL.1 23 _ rfl) rfl (by decide) ⟨Nat.le_of_ble_eq_true rfl, Nat.le_of_ble_eq_true rfl⟩ ⟨Nat.le_refl _, Nat.le_refl _⟩ rfl rfl (Nat.le_of_ble_eq_true rfl) dX6_readHarm_56 h (fun r61 D61 h => ?_)
        obtain ⟨s62, h⟩ := h
        refine go_iastore (hL.1 40 _ rfl) (b := 6) rfl (by decide) s62.1 s62.2 dX6_readHarm_59 ?_
        refine go_aload_n 0 dX6_readHarm_60 rfl rfl ?_
        refine go_ldc2 (x := 29807) k_X6_150 dX6_readHarm_61 ?_
        refine go_vV (M := MX6_expectWord) [vJ 29807] [] mv_X6_117 (hL.1 23 _ rfl) rfl (by decide) ⟨Nat.le_of_ble_eq_true rfl, Nat.le_of_ble_eq_true rfl⟩ ⟨Nat.le_refl _, Nat.le_refl _⟩ rfl rfl (Nat.le_of_ble_eq_true rfl) dX6_readHarm_64 h (fun r63 D63 h => ?_)
        refine go_aload_n 0 dX6_readHarm_67 rfl rfl ?_
        refine go_getR 14 f_X6_62 rfl (hL.1 23 _ rfl) (hL.2.1 23 14 _ rfl (by decide)) dX6_readHarm_68 ?_
        refine go_iload_n 1 dX6_readHarm_71 rfl rfl ?_
        refine go_aload_n 0 dX6_readHarm_72 rfl rfl ?_
        refine go_aload_n 0 dX6_readHarm_73 rfl rfl ?_
        refine go_getR 13 f_X6_58 rfl (hL.1 23 _ rfl) (hL.2.1 23 13 _ rfl (by decide)) dX6_readHarm_74 ?_
        refine go_iload_n 1 dX6_readHarm_77 rfl rfl ?_
        refine go_iaload (hL.1 40 _ rfl) (b := 6) rfl (by decide) s62.1 dX6_readHarm_78 ?_
        refine go_bipush dX6_readHarm_79 (by decide) ?_
        refine go_vI (M := MX6_readNumber) [vI (D63 40 (D 25 1)), vI 99] [vI (D 25 1), vR E 41] mv_X6_124 (hL.1 23 _ rfl) rfl (by decide) ⟨Nat.le_of_ble_eq_true rfl, Nat.le_of_ble_eq_true rfl⟩ ⟨Nat.le_refl _, Nat.le_refl _⟩ rfl rfl (Nat.le_of_ble_eq_true rfl) dX6_readHarm_81 h (fun r65 D65 h => ?_)
        obtain ⟨s66, h⟩ := h
        refine go_iastore (hL.1 41 _ rfl) (b := 6) rfl (by decide) s62.1 s66 dX6_readHarm_84 ?_
        refine go_goto 126 dX6_readHarm_85 (by decide) ?_
        refine go_aload_n 0 dX6_readHarm_126 rfl rfl ?_
        refine go_ldc2 (x := 499850634611) k_X6_152 dX6_readHarm_127 ?_
        refine go_vV (M := MX6_expectWord) [vJ 499850634611] [] mv_X6_117 (hL.1 23 _ rfl) rfl (by decide) ⟨Nat.le_of_ble_eq_true rfl, Nat.le_of_ble_eq_true rfl⟩ ⟨Nat.le_refl _, Nat.le_refl _⟩ rfl rfl (Nat.le_of_ble_eq_true rfl) dX6_readHarm_130 h (fun r67 D67 h => ?_)
        refine go_aload_n 0 dX6_readHarm_133 rfl rfl ?_
        refine go_getR 2 f_X6_22 rfl (hL.1 23 _ rfl) (hL.2.1 23 2 _ rfl (by decide)) dX6_readHarm_134 ?_
        refine go_getR 11 f_X6_154 rfl (hL.1 25 _ rfl) (hL.2.1 25 11 _ rfl (by decide)) dX6_readHarm_137 ?_
        refine go_iload_n 1 dX6_readHarm_140 rfl rfl ?_
        refine go_aload_n 0 dX6_readHarm_141 rfl rfl ?_
        refine go_iconst dX6_readHarm_142 ?_
        refine go_bipush dX6_readHarm_143 (by decide) ?_
        refine go_vI (M := MX6_readNumber) [vI 0, vI 8] [vI (D 25 1), vR E 32] mv_X6_124 (hL.1 23 _ rfl) rfl (by decide) ⟨Nat.le_of_ble_eq_true rfl, Nat.le_of_ble_eq_true rfl⟩ ⟨Nat.le_refl _, Nat.le_refl _⟩ rfl rfl (Nat.le_of_ble_eq_true rfl) dX6_readHarm_145 h (fun r69 D69 h => ?_)
        obtain ⟨s70, h⟩ := h
        refine go_iastore (hL.1 32 _ rfl) (b := 6) rfl (by decide) s62.1 s70 dX6_readHarm_148 ?_
        refine go_aload_n 0 dX6_readHarm_149 rfl rfl ?_
        refine go_ldc2 (x := 1868850291) k_X6_157 dX6_readHarm_150 ?_
        refine go_vV (M := MX6_expectWord) [vJ 1868850291] [] mv_X6_117 (hL.1 23 _ rfl) rfl (by decide) ⟨Nat.le_of_ble_eq_true rfl, Nat.le_of_ble_eq_true rfl⟩ ⟨Nat.le_refl _, Nat.le_refl _⟩ rfl rfl (Nat.le_of_ble_eq_true rfl) dX6_readHarm_153 h (fun r71 D71 h => ?_)
        refine go_aload_n 0 dX6_readHarm_156 rfl rfl ?_
        refine go_getR 2 f_X6_22 rfl (hL.1 23 _ rfl) (hL.2.1 23 2 _ rfl (by decide)) dX6_readHarm_157 ?_
        refine go_getR 12 f_X6_159 rfl (hL.1 25 _ rfl) (hL.2.1 25 12 _ rfl (by decide)) dX6_readHarm_160 ?_
        refine go_iload_n 1 dX6_readHarm_163 rfl rfl ?_
        refine go_aload_n 0 dX6_readHarm_164 rfl rfl ?_
        refine go_iconst dX6_readHarm_165 ?_
        refine go_bipush dX6_readHarm_166 (by decide) ?_
        refine go_vI (M := MX6_readNumber) [vI 0, vI 16] [vI (D 25 1), vR E 33] mv_X6_124 (hL.1 23 _ rfl) rfl (by decide) ⟨Nat.le_of_ble_eq_true rfl, Nat.le_of_ble_eq_true rfl⟩ ⟨Nat.le_refl _, Nat.le_refl _⟩ rfl rfl (Nat.le_of_ble_eq_true rfl) dX6_readHarm_168 h (fun r73 D73 h => ?_)
        obtain ⟨s74, h⟩ := h
        refine go_iastore (hL.1 33 _ rfl) (b := 6) rfl (by decide) s62.1 s74 dX6_readHarm_171 ?_
        refine go_aload_n 0 dX6_readHarm_172 rfl rfl ?_
        refine go_vV (M := MX6_expectSign) [] [] mv_X6_140 (hL.1 23 _ rfl) rfl (by decide) ⟨Nat.le_of_ble_eq_true rfl, Nat.le_of_ble_eq_true rfl⟩ ⟨Nat.le_refl _, Nat.le_refl _⟩ rfl rfl (Nat.le_of_ble_eq_true rfl) dX6_readHarm_173 h (fun r75 D75 h => ?_)
        obtain ⟨s76, h⟩ := h
        refine go_aload_n 0 dX6_readHarm_176 rfl rfl ?_
        refine go_getR 2 f_X6_22 rfl (hL.1 23 _ rfl) (hL.2.1 23 2 _ rfl (by decide)) dX6_readHarm_177 ?_
        refine go_getR 10 f_X6_162 rfl (hL.1 25 _ rfl) (hL.2.1 25 10 _ rfl (by decide)) dX6_readHarm_180 ?_
        refine go_iload_n 1 dX6_readHarm_183 rfl rfl ?_
        refine go_iload_n 2 dX6_readHarm_184 rfl rfl ?_
        refine go_iastore (hL.1 31 _ rfl) (b := 6) rfl (by decide) s62.1 s3 dX6_readHarm_185 ?_
        refine go_aload_n 0 dX6_readHarm_186 rfl rfl ?_
        refine go_getR 2 f_X6_22 rfl (hL.1 23 _ rfl) (hL.2.1 23 2 _ rfl (by decide)) dX6_readHarm_187 ?_
        refine go_iload_n 1 dX6_readHarm_190 rfl rfl ?_
        refine go_iconst dX6_readHarm_191 ?_
        refine go_iadd dX6_readHarm_192 ?_
        refine go_putI 1 (i := 1) s76 f_X6_94 rfl (hL.1 25 _ rfl) dX6_readHarm_193 ?_
        exact go_return (Nat.le_refl _) (Nat.le_refl _) rfl dX6_readHarm_196 h
    · have h := h.2 c14
      refine go_aload_n 0 dX6_readHarm_24 rfl rfl ?_
      refine go_iload_n 2 dX6_readHarm_25 rfl rfl ?_
      refine go_iconst dX6_readHarm_26 ?_
      refine go_icmp_ne 34 dX6_readHarm_27 (by decide) s3 (by decide) (fun c78 => ?_) (fun c78 => ?_)
      · have h := h.1 c78
        refine go_iconst dX6_readHarm_34 ?_
        refine go_vV (M := MX6_stop) [vI 5] [] mv_X6_107 (hL.1 23 _ rfl) rfl (by decide) ⟨Nat.le_of_ble_eq_true rfl, Nat.le_of_ble_eq_true rfl⟩ ⟨Nat.le_refl _, Nat.le_refl _⟩ rfl rfl (Nat.le_of_ble_eq_true rfl) dX6_readHarm_35 h (fun r80 D80 h => ?_)
        exact go_return (Nat.le_refl _) (Nat.le_refl _) rfl dX6_readHarm_38 h
      · have h := h.2 c78
        refine go_iconst dX6_readHarm_30 ?_
        refine go_goto 35 dX6_readHarm_31 (by decide) ?_
        refine go_vV (M := MX6_stop) [vI 2] [] mv_X6_107 (hL.1 23 _ rfl) rfl (by decide) ⟨Nat.le_of_ble_eq_true rfl, Nat.le_of_ble_eq_true rfl⟩ ⟨Nat.le_refl _, Nat.le_refl _⟩ rfl rfl (Nat.le_of_ble_eq_true rfl) dX6_readHarm_35 h (fun r83 D83 h => ?_)
        exact go_return (Nat.le_refl _) (Nat.le_refl _) rfl dX6_readHarm_38 h
theorem s_X6_parse {l : Launch} {E : Ev} {Q : Int → Sh → Dm → Prop} {G : Sh} {D : Dm} (hL : Lay G) {v1 : Int}  (h : ((-2147483648 ≤ v1 ∧ v1 < 2147483648) ∧ (-2147483648 ≤ (min v1 (D 23 1)) ∧ (min v1 (D 23 1)) < 2147483648)) ∧ C0 l E MX6_step 2 [vR E 23] G (upd2 (upd2 (upd2 (upd2 (upd2 (upd2 (upd2 D 23 5 (min v1 (D 23 1))) 23 6 0) 23 3 0) 23 4 (-1)) 25 0 0) 25 1 0) 25 2 0) (fun r4 D4 => KX6_parse l E Q 40 [(0, vR E 23), (1, vI v1), (2, vI 0)] G D4)) : Ct l E MX6_parse 0 0 0 [vR E 23, vI v1] G D Q := by
  refine Ct.of (by decide) (Nat.le_of_ble_eq_true rfl) ?_
  show KX6_parse l E Q 0 [(0, vR E 23), (1, vI v1)] G D
  obtain ⟨s1, h⟩ := h
  refine go_aload_n 0 dX6_parse_0 rfl rfl ?_
  refine go_iload_n 1 dX6_parse_1 rfl rfl ?_
  refine go_aload_n 0 dX6_parse_2 rfl rfl ?_
  refine go_getI 1 (i := 1) f_X6_15 rfl (hL.1 23 _ rfl) dX6_parse_3 ?_
  refine go_rngI (c := 23) (i := 1) (hL.1 23 _ rfl) rfl (fun (q2 : -2147483648 ≤ (D 23 1) ∧ (D 23 1) < 2147483648) => ?_)
  refine go_mmin ma_X6_65 s1.1 q2 ⟨by decide, Nat.le_of_ble_eq_true rfl⟩ ⟨Nat.le_refl _, Nat.le_refl _⟩ dX6_parse_6 ?_
  refine go_putI 5 (i := 5) s1.2 f_X6_32 rfl (hL.1 23 _ rfl) dX6_parse_9 ?_
  refine go_aload_n 0 dX6_parse_12 rfl rfl ?_
  refine go_iconst dX6_parse_13 ?_
  refine go_putI 6 (i := 6) (by decide) f_X6_35 rfl (hL.1 23 _ rfl) dX6_parse_14 ?_
  refine go_aload_n 0 dX6_parse_17 rfl rfl ?_
  refine go_iconst dX6_parse_18 ?_
  refine go_putI 3 (i := 3) (by decide) f_X6_26 rfl (hL.1 23 _ rfl) dX6_parse_19 ?_
  refine go_aload_n 0 dX6_parse_22 rfl rfl ?_
  refine go_iconst dX6_parse_23 ?_
  refine go_putI 4 (i := 4) (by decide) f_X6_29 rfl (hL.1 23 _ rfl) dX6_parse_24 ?_
  refine go_aload_n 0 dX6_parse_27 rfl rfl ?_
  refine go_getR 2 f_X6_22 rfl (hL.1 23 _ rfl) (hL.2.1 23 2 _ rfl (by decide)) dX6_parse_28 ?_
  refine go_vVp (M := MX8_empty) [] [] mv_X6_71 (hL.1 25 _ rfl) rfl (by decide) ⟨Nat.le_of_ble_eq_true rfl, Nat.le_of_ble_eq_true rfl⟩ ⟨Nat.le_refl _, Nat.le_refl _⟩ rfl rfl (Nat.le_of_ble_eq_true rfl) dX6_parse_31 (p_X8_empty hL) ?_
  refine go_aload_n 0 dX6_parse_34 rfl rfl ?_
  refine go_vV (M := MX6_step) [] [] mv_X6_74 (hL.1 23 _ rfl) rfl (by decide) ⟨Nat.le_of_ble_eq_true rfl, Nat.le_of_ble_eq_true rfl⟩ ⟨Nat.le_refl _, Nat.le_refl _⟩ rfl rfl (Nat.le_of_ble_eq_true rfl) dX6_parse_35 h (fun r4 D4 h => ?_)
  refine go_iconst dX6_parse_38 ?_
  refine go_istore_n [1, 2, 0] (L' := [(0, vR E 23), (1, vI v1), (2, vI 0)]) dX6_parse_39 rfl (by decide) rfl ?_
  exact h
theorem s_X6_parse_40 {l : Launch} {E : Ev} {Q : Int → Sh → Dm → Prop} {G : Sh} {D : Dm} (hL : Lay G) {v1 v2 : Int}  (h : ((-2147483648 ≤ v2 ∧ v2 < 2147483648)) ∧ ((600 < v2 → KX6_parse l E Q 107 [(0, vR E 23), (1, vI v1), (2, vI 0)] G D) ∧ (v2 ≤ 600 → (((D 23 3) ≠ 0 → KX6_parse l E Q 107 [(0, vR E 23), (1, vI v1), (2, vI 0)] G D) ∧ ((D 23 3) = 0 → (((D 23 7) = 0 → KX6_parse l E Q 107 [(0, vR E 23), (1, vI v1), (2, vI 0)] G D) ∧ ((D 23 7) ≠ 0 → ((¬ (((D 23 3) = 0) ∧ (((D 23 7) = 1) ∧ ((D 23 10) = 495874894192))) → ((¬ (((D 23 3) = 0) ∧ (((D 23 7) = 1) ∧ ((D 23 10) = 112568633486457))) → C0 l E MX6_readHarm 2 [vR E 23] G D (fun r19 D19 => KX6_parse l E Q 40 [(0, vR E 23), (1, vI v1), (2, vI (v2 + 1))] G D19)) ∧ ((((D 23 3) = 0) ∧ (((D 23 7) = 1) ∧ ((D 23 10) = 112568633486457))) → C0 l E MX6_readFamily 2 [vR E 23] G D (fun r22 D22 => KX6_parse l E Q 40 [(0, vR E 23), (1, vI v1), (2, vI (v2 + 1))] G D22)))) ∧ ((((D 23 3) = 0) ∧ (((D 23 7) = 1) ∧ ((D 23 10) = 495874894192))) → C0 l E MX6_readStrip 2 [vR E 23] G D (fun r25 D25 => KX6_parse l E Q 40 [(0, vR E 23), (1, vI v1), (2, vI (v2 + 1))] G D25)))))))))) : KX6_parse l E Q 40 [(0, vR E 23), (1, vI v1), (2, vI v2)] G D := by
  obtain ⟨s1, h⟩ := h
  refine go_iload_n 2 dX6_parse_40 rfl rfl ?_
  refine go_sipush dX6_parse_41 (by decide) ?_
  refine go_icmp_gt 105 dX6_parse_44 (by decide) s1 (by decide) (fun c2 => ?_) (fun c2 => ?_)
  · have h := h.1 c2
    refine go_iconst dX6_parse_105 ?_
    refine go_istore_n [1, 2, 0] (L' := [(0, vR E 23), (1, vI v1), (2, vI 0)]) dX6_parse_106 rfl (by decide) rfl ?_
    exact h
  · have h := h.2 c2
    refine go_aload_n 0 dX6_parse_47 rfl rfl ?_
    refine go_getI 3 (i := 3) f_X6_26 rfl (hL.1 23 _ rfl) dX6_parse_48 ?_
    refine go_rngI (c := 23) (i := 3) (hL.1 23 _ rfl) rfl (fun (q5 : -2147483648 ≤ (D 23 3) ∧ (D 23 3) < 2147483648) => ?_)
    refine go_if_ne 105 dX6_parse_51 (by decide) q5 (fun c6 => ?_) (fun c6 => ?_)
    · have h := h.1 c6
      refine go_iconst dX6_parse_105 ?_
      refine go_istore_n [1, 2, 0] (L' := [(0, vR E 23), (1, vI v1), (2, vI 0)]) dX6_parse_106 rfl (by decide) rfl ?_
      exact h
    · have h := h.2 c6
      refine go_aload_n 0 dX6_parse_54 rfl rfl ?_
      refine go_getI 7 (i := 7) f_X6_38 rfl (hL.1 23 _ rfl) dX6_parse_55 ?_
      refine go_rngI (c := 23) (i := 7) (hL.1 23 _ rfl) rfl (fun (q9 : -2147483648 ≤ (D 23 7) ∧ (D 23 7) < 2147483648) => ?_)
      refine go_if_eq 105 dX6_parse_58 (by decide) q9 (fun c10 => ?_) (fun c10 => ?_)
      · have h := h.1 c10
        refine go_iconst dX6_parse_105 ?_
        refine go_istore_n [1, 2, 0] (L' := [(0, vR E 23), (1, vI v1), (2, vI 0)]) dX6_parse_106 rfl (by decide) rfl ?_
        exact h
      · have h := h.2 c10
        refine go_aload_n 0 dX6_parse_61 rfl rfl ?_
        refine go_ldc2 (x := 495874894192) k_X6_77 dX6_parse_62 ?_
        refine go_vIp (M := MX6_sees) [vJ 495874894192] [] mv_X6_79 (hL.1 23 _ rfl) rfl (by decide) ⟨Nat.le_of_ble_eq_true rfl, Nat.le_of_ble_eq_true rfl⟩ ⟨Nat.le_refl _, Nat.le_refl _⟩ rfl rfl (Nat.le_of_ble_eq_true rfl) dX6_parse_65 (p_X6_sees hL (by decide)) ?_
        refine go_ifb_eq 78 dX6_parse_68 (by decide) (fun c14 => ?_) (fun c14 => ?_)
        · have h := h.1 c14
          refine go_aload_n 0 dX6_parse_78 rfl rfl ?_
          refine go_ldc2 (x := 112568633486457) k_X6_86 dX6_parse_79 ?_
          refine go_vIp (M := MX6_sees) [vJ 112568633486457] [] mv_X6_79 (hL.1 23 _ rfl) rfl (by decide) ⟨Nat.le_of_ble_eq_true rfl, Nat.le_of_ble_eq_true rfl⟩ ⟨Nat.le_refl _, Nat.le_refl _⟩ rfl rfl (Nat.le_of_ble_eq_true rfl) dX6_parse_82 (p_X6_sees hL (by decide)) ?_
          refine go_ifb_eq 95 dX6_parse_85 (by decide) (fun c17 => ?_) (fun c17 => ?_)
          · have h := h.1 c17
            refine go_aload_n 0 dX6_parse_95 rfl rfl ?_
            refine go_vV (M := MX6_readHarm) [] [] mv_X6_91 (hL.1 23 _ rfl) rfl (by decide) ⟨Nat.le_of_ble_eq_true rfl, Nat.le_of_ble_eq_true rfl⟩ ⟨Nat.le_refl _, Nat.le_refl _⟩ rfl rfl (Nat.le_of_ble_eq_true rfl) dX6_parse_96 h (fun r19 D19 h => ?_)
            refine go_iinc 2 [1, 2, 0] (L' := [(0, vR E 23), (1, vI v1), (2, vI (v2 + 1))]) dX6_parse_99 (by decide) rfl rfl ?_
            refine go_goto 40 dX6_parse_102 (by decide) ?_
            exact h
          · have h := h.2 c17
            refine go_aload_n 0 dX6_parse_88 rfl rfl ?_
            refine go_vV (M := MX6_readFamily) [] [] mv_X6_88 (hL.1 23 _ rfl) rfl (by decide) ⟨Nat.le_of_ble_eq_true rfl, Nat.le_of_ble_eq_true rfl⟩ ⟨Nat.le_refl _, Nat.le_refl _⟩ rfl rfl (Nat.le_of_ble_eq_true rfl) dX6_parse_89 h (fun r22 D22 h => ?_)
            refine go_goto 99 dX6_parse_92 (by decide) ?_
            refine go_iinc 2 [1, 2, 0] (L' := [(0, vR E 23), (1, vI v1), (2, vI (v2 + 1))]) dX6_parse_99 (by decide) rfl rfl ?_
            refine go_goto 40 dX6_parse_102 (by decide) ?_
            exact h
        · have h := h.2 c14
          refine go_aload_n 0 dX6_parse_71 rfl rfl ?_
          refine go_vV (M := MX6_readStrip) [] [] mv_X6_83 (hL.1 23 _ rfl) rfl (by decide) ⟨Nat.le_of_ble_eq_true rfl, Nat.le_of_ble_eq_true rfl⟩ ⟨Nat.le_refl _, Nat.le_refl _⟩ rfl rfl (Nat.le_of_ble_eq_true rfl) dX6_parse_72 h (fun r25 D25 h => ?_)
          refine go_goto 99 dX6_parse_75 (by decide) ?_
          refine go_iinc 2 [1, 2, 0] (L' := [(0, vR E 23), (1, vI v1), (2, vI (v2 + 1))]) dX6_parse_99 (by decide) rfl rfl ?_
          refine go_goto 40 dX6_parse_102 (by decide) ?_
          exact h
theorem s_X6_parse_107 {l : Launch} {E : Ev} {Q : Int → Sh → Dm → Prop} {G : Sh} {D : Dm} (hL : Lay G) {v1 v2 : Int}  (h : ((-2147483648 ≤ v2 ∧ v2 < 2147483648)) ∧ (((D 25 1) ≤ v2 → (((D 23 3) ≠ 0 → Q 0 G D) ∧ ((D 23 3) = 0 → Q 1 G D))) ∧ (v2 < (D 25 1) → ((0 ≤ v2 ∧ v2 < 6)) ∧ C0 l E MX8_stripsFallenOn 0 [vR E 25, vI v2, vI (D 40 v2), vI (D 41 v2)] G D (fun r10 D10 => ((-2147483648 ≤ r10 ∧ r10 < 2147483648)) ∧ KX6_parse l E Q 107 [(0, vR E 23), (1, vI v1), (2, vI (v2 + 1))] G (upd2 D10 34 v2 r10))))) : KX6_parse l E Q 107 [(0, vR E 23), (1, vI v1), (2, vI v2)] G D := by
  obtain ⟨s1, h⟩ := h
  refine go_iload_n 2 dX6_parse_107 rfl rfl ?_
  refine go_aload_n 0 dX6_parse_108 rfl rfl ?_
  refine go_getR 2 f_X6_22 rfl (hL.1 23 _ rfl) (hL.2.1 23 2 _ rfl (by decide)) dX6_parse_109 ?_
  refine go_getI 1 (i := 1) f_X6_94 rfl (hL.1 25 _ rfl) dX6_parse_112 ?_
  refine go_rngI (c := 25) (i := 1) (hL.1 25 _ rfl) rfl (fun (q2 : -2147483648 ≤ (D 25 1) ∧ (D 25 1) < 2147483648) => ?_)
  refine go_icmp_ge 153 dX6_parse_115 (by decide) s1 q2 (fun c3 => ?_) (fun c3 => ?_)
  · have h := h.1 c3
    refine go_aload_n 0 dX6_parse_153 rfl rfl ?_
    refine go_getI 3 (i := 3) f_X6_26 rfl (hL.1 23 _ rfl) dX6_parse_154 ?_
    refine go_rngI (c := 23) (i := 3) (hL.1 23 _ rfl) rfl (fun (q5 : -2147483648 ≤ (D 23 3) ∧ (D 23 3) < 2147483648) => ?_)
    refine go_if_ne 164 dX6_parse_157 (by decide) q5 (fun c6 => ?_) (fun c6 => ?_)
    · have h := h.1 c6
      refine go_iconst dX6_parse_164 ?_
      exact go_zreturn (Nat.le_refl _) (Nat.le_refl _) rfl (by decide) dX6_parse_165 h
    · have h := h.2 c6
      refine go_iconst dX6_parse_160 ?_
      refine go_goto 165 dX6_parse_161 (by decide) ?_
      exact go_zreturn (Nat.le_refl _) (Nat.le_refl _) rfl (by decide) dX6_parse_165 h
  · have h := h.2 c3
    obtain ⟨s9, h⟩ := h
    refine go_aload_n 0 dX6_parse_118 rfl rfl ?_
    refine go_getR 2 f_X6_22 rfl (hL.1 23 _ rfl) (hL.2.1 23 2 _ rfl (by decide)) dX6_parse_119 ?_
    refine go_getR 13 f_X6_97 rfl (hL.1 25 _ rfl) (hL.2.1 25 13 _ rfl (by decide)) dX6_parse_122 ?_
    refine go_iload_n 2 dX6_parse_125 rfl rfl ?_
    refine go_aload_n 0 dX6_parse_126 rfl rfl ?_
    refine go_getR 2 f_X6_22 rfl (hL.1 23 _ rfl) (hL.2.1 23 2 _ rfl (by decide)) dX6_parse_127 ?_
    refine go_iload_n 2 dX6_parse_130 rfl rfl ?_
    refine go_aload_n 0 dX6_parse_131 rfl rfl ?_
    refine go_getR 13 f_X6_58 rfl (hL.1 23 _ rfl) (hL.2.1 23 13 _ rfl (by decide)) dX6_parse_132 ?_
    refine go_iload_n 2 dX6_parse_135 rfl rfl ?_
    refine go_iaload (hL.1 40 _ rfl) (b := 6) rfl (by decide) s9 dX6_parse_136 ?_
    refine go_aload_n 0 dX6_parse_137 rfl rfl ?_
    refine go_getR 14 f_X6_62 rfl (hL.1 23 _ rfl) (hL.2.1 23 14 _ rfl (by decide)) dX6_parse_138 ?_
    refine go_iload_n 2 dX6_parse_141 rfl rfl ?_
    refine go_iaload (hL.1 41 _ rfl) (b := 6) rfl (by decide) s9 dX6_parse_142 ?_
    refine go_vI (M := MX8_stripsFallenOn) [vI v2, vI (D 40 v2), vI (D 41 v2)] [vI v2, vR E 34] mv_X6_100 (hL.1 25 _ rfl) rfl (by decide) ⟨Nat.le_of_ble_eq_true rfl, Nat.le_of_ble_eq_true rfl⟩ ⟨Nat.le_refl _, Nat.le_refl _⟩ rfl rfl (Nat.le_of_ble_eq_true rfl) dX6_parse_143 h (fun r10 D10 h => ?_)
    obtain ⟨s11, h⟩ := h
    refine go_iastore (hL.1 34 _ rfl) (b := 6) rfl (by decide) s9 s11 dX6_parse_146 ?_
    refine go_iinc 2 [1, 2, 0] (L' := [(0, vR E 23), (1, vI v1), (2, vI (v2 + 1))]) dX6_parse_147 (by decide) rfl rfl ?_
    refine go_goto 107 dX6_parse_150 (by decide) ?_
    exact h
