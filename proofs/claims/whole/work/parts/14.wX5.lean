theorem s_X5_roundOf {l : Launch} {E : Ev} {Q : Int → Sh → Dm → Prop} {G : Sh} {D : Dm} (hL : Lay G) {v1 v2 : Int}  (h : ((-2147483648 ≤ ((iSl v1 (D 1 0)) + v2) ∧ ((iSl v1 (D 1 0)) + v2) < 2147483648)) ∧ ((((iSl v1 (D 1 0)) + v2) < 0 → Q 0 G D) ∧ (0 ≤ ((iSl v1 (D 1 0)) + v2) → ((-2147483648 ≤ ((rdl G : Nat) : Int) ∧ ((rdl G : Nat) : Int) < 2147483648)) ∧ ((((rdl G : Nat) : Int) ≤ ((iSl v1 (D 1 0)) + v2) → Q 0 G D) ∧ (((iSl v1 (D 1 0)) + v2) < ((rdl G : Nat) : Int) → ((0 ≤ ((iSl v1 (D 1 0)) + v2) ∧ ((iSl v1 (D 1 0)) + v2) < ((rdl G : Nat) : Int))) ∧ Q (D (rdc G) ((iSl v1 (D 1 0)) + v2)) G D))))) : Ct l E MX5_roundOf 0 0 0 [vR E 42, vI v1, vI v2] G D Q := by
  refine Ct.of (by decide) (Nat.le_of_ble_eq_true rfl) ?_
  show KX5_roundOf l E Q 0 [(0, vR E 42), (1, vI v1), (2, vI v2)] G D
  obtain ⟨s1, h⟩ := h
  refine go_iload_n 1 dX5_roundOf_0 rfl rfl ?_
  refine go_aload_n 0 dX5_roundOf_1 rfl rfl ?_
  refine go_getR 0 f_X5_42 rfl (hL.1 42 _ rfl) (hL.2.1 42 0 _ rfl (by decide)) dX5_roundOf_2 ?_
  refine go_getI 0 (i := 0) f_X5_95 rfl (hL.1 1 _ rfl) dX5_roundOf_5 ?_
  refine go_ishl dX5_roundOf_8 ?_
  refine go_iload_n 2 dX5_roundOf_9 rfl rfl ?_
  refine go_iadd dX5_roundOf_10 ?_
  refine go_istore_n [1, 2, 3, 0] (L' := [(0, vR E 42), (1, vI v1), (2, vI v2), (3, vI ((iSl v1 (D 1 0)) + v2))]) dX5_roundOf_11 rfl (by decide) rfl ?_
  refine go_iload_n 3 dX5_roundOf_12 rfl rfl ?_
  refine go_if_lt 34 dX5_roundOf_13 (by decide) s1 (fun c2 => ?_) (fun c2 => ?_)
  · have h := h.1 c2
    refine go_iconst dX5_roundOf_34 ?_
    exact go_ireturn (Nat.le_refl _) (Nat.le_refl _) rfl dX5_roundOf_35 h
  · have h := h.2 c2
    obtain ⟨s4, h⟩ := h
    refine go_iload_n 3 dX5_roundOf_16 rfl rfl ?_
    refine go_aload_n 0 dX5_roundOf_17 rfl rfl ?_
    refine go_getR 8 f_X5_36 rfl (hL.1 42 _ rfl) (lay_rd hL) dX5_roundOf_18 ?_
    refine go_alen 0 (lay_rdT hL) (by decide) rfl (b := ((rdl G : Nat) : Int)) rfl dX5_roundOf_21 ?_
    refine go_icmp_ge 34 dX5_roundOf_22 (by decide) s1 s4 (fun c5 => ?_) (fun c5 => ?_)
    · have h := h.1 c5
      refine go_iconst dX5_roundOf_34 ?_
      exact go_ireturn (Nat.le_refl _) (Nat.le_refl _) rfl dX5_roundOf_35 h
    · have h := h.2 c5
      obtain ⟨s7, h⟩ := h
      refine go_aload_n 0 dX5_roundOf_25 rfl rfl ?_
      refine go_getR 8 f_X5_36 rfl (hL.1 42 _ rfl) (lay_rd hL) dX5_roundOf_26 ?_
      refine go_iload_n 3 dX5_roundOf_29 rfl rfl ?_
      refine go_iaload (lay_rdT hL) (b := ((rdl G : Nat) : Int)) rfl (lay_rdN hL) s7 dX5_roundOf_30 ?_
      refine go_goto 35 dX5_roundOf_31 (by decide) ?_
      exact go_ireturn (Nat.le_refl _) (Nat.le_refl _) rfl dX5_roundOf_35 h
theorem s_X5_fillNets {l : Launch} {E : Ev} {Q : Int → Sh → Dm → Prop} {G : Sh} {D : Dm} (hL : Lay G) {v1 v2 v3 : Int}  (h : ((1 ≤ (D 1 3) → C0 l E MX5_roundOf 0 [vR E 42, vI v1, vI v2] G D (fun r6 D6 => ((-2147483648 ≤ r6 ∧ r6 < 2147483648) ∧ (0 < (D6 1 3) ∧ (D6 1 3) < 2147483648)) ∧ KX5_fillNets l E Q 43 [(0, vR E 42), (1, vI v1), (2, vI v2), (3, vI v3), (4, vI (iSl 1 (D 1 1))), (5, vI (Int.tdiv r6 (D6 1 3))), (6, vI 0)] G D6)) ∧ ((D 1 3) < 1 → KX5_fillNets l E Q 43 [(0, vR E 42), (1, vI v1), (2, vI v2), (3, vI v3), (4, vI (iSl 1 (D 1 1))), (5, vI 0), (6, vI 0)] G D))) : Ct l E MX5_fillNets 2 0 0 [vR E 42, vI v1, vI v2, vI v3] G D Q := by
  refine Ct.of (by decide) (Nat.le_of_ble_eq_true rfl) ?_
  show KX5_fillNets l E Q 0 [(0, vR E 42), (1, vI v1), (2, vI v2), (3, vI v3)] G D
  refine go_aload_n 0 dX5_fillNets_0 rfl rfl ?_
  refine go_getR 0 f_X5_42 rfl (hL.1 42 _ rfl) (hL.2.1 42 0 _ rfl (by decide)) dX5_fillNets_1 ?_
  refine go_vIp (M := MX8_lots) [] [] mv_X5_69 (hL.1 1 _ rfl) rfl (by decide) ⟨Nat.le_of_ble_eq_true rfl, Nat.le_of_ble_eq_true rfl⟩ ⟨Nat.le_refl _, Nat.le_refl _⟩ rfl rfl (Nat.le_of_ble_eq_true rfl) dX5_fillNets_4 (p_X8_lots hL) ?_
  refine go_istore [1, 2, 3, 4, 0] (L' := [(0, vR E 42), (1, vI v1), (2, vI v2), (3, vI v3), (4, vI (iSl 1 (D 1 1)))]) dX5_fillNets_7 (by decide) rfl ?_
  refine go_aload_n 0 dX5_fillNets_9 rfl rfl ?_
  refine go_getR 0 f_X5_42 rfl (hL.1 42 _ rfl) (hL.2.1 42 0 _ rfl (by decide)) dX5_fillNets_10 ?_
  refine go_getI 3 (i := 3) f_X5_130 rfl (hL.1 1 _ rfl) dX5_fillNets_13 ?_
  refine go_iconst dX5_fillNets_16 ?_
  refine go_rngI (c := 1) (i := 3) (hL.1 1 _ rfl) rfl (fun (q3 : -2147483648 ≤ (D 1 3) ∧ (D 1 3) < 2147483648) => ?_)
  refine go_icmp_ge 24 dX5_fillNets_17 (by decide) q3 (by decide) (fun c4 => ?_) (fun c4 => ?_)
  · have h := h.1 c4
    refine go_aload_n 0 dX5_fillNets_24 rfl rfl ?_
    refine go_iload_n 1 dX5_fillNets_25 rfl rfl ?_
    refine go_iload_n 2 dX5_fillNets_26 rfl rfl ?_
    refine go_vI (M := MX5_roundOf) [vI v1, vI v2] [] mv_X5_133 (hL.1 42 _ rfl) rfl (by decide) ⟨Nat.le_of_ble_eq_true rfl, Nat.le_of_ble_eq_true rfl⟩ ⟨Nat.le_refl _, Nat.le_refl _⟩ rfl rfl (Nat.le_of_ble_eq_true rfl) dX5_fillNets_27 h (fun r6 D6 h => ?_)
    obtain ⟨s7, h⟩ := h
    refine go_aload_n 0 dX5_fillNets_30 rfl rfl ?_
    refine go_getR 0 f_X5_42 rfl (hL.1 42 _ rfl) (hL.2.1 42 0 _ rfl (by decide)) dX5_fillNets_31 ?_
    refine go_getI 3 (i := 3) f_X5_130 rfl (hL.1 1 _ rfl) dX5_fillNets_34 ?_
    refine go_idiv ⟨s7.1, s7.2⟩ dX5_fillNets_37 ?_
    refine go_istore [1, 2, 3, 4, 5, 0] (L' := [(0, vR E 42), (1, vI v1), (2, vI v2), (3, vI v3), (4, vI (iSl 1 (D 1 1))), (5, vI (Int.tdiv r6 (D6 1 3)))]) dX5_fillNets_38 (by decide) rfl ?_
    refine go_iconst dX5_fillNets_40 ?_
    refine go_istore [1, 2, 3, 4, 5, 6, 0] (L' := [(0, vR E 42), (1, vI v1), (2, vI v2), (3, vI v3), (4, vI (iSl 1 (D 1 1))), (5, vI (Int.tdiv r6 (D6 1 3))), (6, vI 0)]) dX5_fillNets_41 (by decide) rfl ?_
    exact h
  · have h := h.2 c4
    refine go_iconst dX5_fillNets_20 ?_
    refine go_goto 38 dX5_fillNets_21 (by decide) ?_
    refine go_istore [1, 2, 3, 4, 5, 0] (L' := [(0, vR E 42), (1, vI v1), (2, vI v2), (3, vI v3), (4, vI (iSl 1 (D 1 1))), (5, vI 0)]) dX5_fillNets_38 (by decide) rfl ?_
    refine go_iconst dX5_fillNets_40 ?_
    refine go_istore [1, 2, 3, 4, 5, 6, 0] (L' := [(0, vR E 42), (1, vI v1), (2, vI v2), (3, vI v3), (4, vI (iSl 1 (D 1 1))), (5, vI 0), (6, vI 0)]) dX5_fillNets_41 (by decide) rfl ?_
    exact h
theorem s_X5_fillNets_43 {l : Launch} {E : Ev} {Q : Int → Sh → Dm → Prop} {G : Sh} {D : Dm} (hL : Lay G) {v1 v2 v3 v4 v5 v6 : Int}  (h : ((-2147483648 ≤ v6 ∧ v6 < 2147483648) ∧ (-2147483648 ≤ v4 ∧ v4 < 2147483648)) ∧ ((v4 ≤ v6 → KX5_fillNets l E Q 69 [(0, vR E 42), (1, vI v1), (2, vI v2), (3, vI v3), (4, vI v4), (5, vI v5), (6, vI 0)] G D) ∧ (v6 < v4 → ((0 ≤ v6 ∧ v6 < 64) ∧ (-2147483648 ≤ (-v5) ∧ (-v5) < 2147483648)) ∧ KX5_fillNets l E Q 43 [(0, vR E 42), (1, vI v1), (2, vI v2), (3, vI v3), (4, vI v4), (5, vI v5), (6, vI (v6 + 1))] G (upd2 D 44 v6 (-v5))))) : KX5_fillNets l E Q 43 [(0, vR E 42), (1, vI v1), (2, vI v2), (3, vI v3), (4, vI v4), (5, vI v5), (6, vI v6)] G D := by
  obtain ⟨s1, h⟩ := h
  refine go_iload 6 dX5_fillNets_43 rfl ?_
  refine go_iload 4 dX5_fillNets_45 rfl ?_
  refine go_icmp_ge 66 dX5_fillNets_47 (by decide) s1.1 s1.2 (fun c2 => ?_) (fun c2 => ?_)
  · have h := h.1 c2
    refine go_iconst dX5_fillNets_66 ?_
    refine go_istore [1, 2, 3, 4, 5, 6, 0] (L' := [(0, vR E 42), (1, vI v1), (2, vI v2), (3, vI v3), (4, vI v4), (5, vI v5), (6, vI 0)]) dX5_fillNets_67 (by decide) rfl ?_
    exact h
  · have h := h.2 c2
    obtain ⟨s4, h⟩ := h
    refine go_aload_n 0 dX5_fillNets_50 rfl rfl ?_
    refine go_getR 2 f_X5_15 rfl (hL.1 42 _ rfl) (hL.2.1 42 2 _ rfl (by decide)) dX5_fillNets_51 ?_
    refine go_iload 6 dX5_fillNets_54 rfl ?_
    refine go_iload 5 dX5_fillNets_56 rfl ?_
    refine go_ineg dX5_fillNets_58 ?_
    refine go_iastore (hL.1 44 _ rfl) (b := 64) rfl (by decide) s4.1 s4.2 dX5_fillNets_59 ?_
    refine go_iinc 6 [1, 2, 3, 4, 5, 6, 0] (L' := [(0, vR E 42), (1, vI v1), (2, vI v2), (3, vI v3), (4, vI v4), (5, vI v5), (6, vI (v6 + 1))]) dX5_fillNets_60 (by decide) rfl rfl ?_
    refine go_goto 43 dX5_fillNets_63 (by decide) ?_
    exact h
theorem s_X5_fillNets_69 {l : Launch} {E : Ev} {Q : Int → Sh → Dm → Prop} {G : Sh} {D : Dm} (hL : Lay G) {v1 v2 v3 v4 v5 v6 : Int}  (h : ((-2147483648 ≤ v6 ∧ v6 < 2147483648)) ∧ (((D 1 0) ≤ v6 → KX5_fillNets l E Q 162 [(0, vR E 42), (1, vI v1), (2, vI v2), (3, vI v3), (4, vI v4), (5, vI v5), (6, vI 0)] G D) ∧ (v6 < (D 1 0) → (((iA (iSr v2 v6) 1) = 0 → KX5_fillNets l E Q 69 [(0, vR E 42), (1, vI v1), (2, vI v2), (3, vI v3), (4, vI v4), (5, vI v5), (6, vI (v6 + 1))] G D) ∧ ((iA (iSr v2 v6) 1) ≠ 0 → ((0 ≤ v6 ∧ v6 < 10)) ∧ KX5_fillNets l E Q 114 [(0, vR E 42), (1, vI v1), (2, vI v2), (3, vI v3), (4, vI v4), (5, vI v5), (6, vI v6), (7, vI (iSr (D 4 v6) v3)), (8, vI (v6 * 64)), (9, vI 0)] G D))))) : KX5_fillNets l E Q 69 [(0, vR E 42), (1, vI v1), (2, vI v2), (3, vI v3), (4, vI v4), (5, vI v5), (6, vI v6)] G D := by
  obtain ⟨s1, h⟩ := h
  refine go_iload 6 dX5_fillNets_69 rfl ?_
  refine go_aload_n 0 dX5_fillNets_71 rfl rfl ?_
  refine go_getR 0 f_X5_42 rfl (hL.1 42 _ rfl) (hL.2.1 42 0 _ rfl (by decide)) dX5_fillNets_72 ?_
  refine go_getI 0 (i := 0) f_X5_95 rfl (hL.1 1 _ rfl) dX5_fillNets_75 ?_
  refine go_rngI (c := 1) (i := 0) (hL.1 1 _ rfl) rfl (fun (q2 : -2147483648 ≤ (D 1 0) ∧ (D 1 0) < 2147483648) => ?_)
  refine go_icmp_ge 159 dX5_fillNets_78 (by decide) s1 q2 (fun c3 => ?_) (fun c3 => ?_)
  · have h := h.1 c3
    refine go_iconst dX5_fillNets_159 ?_
    refine go_istore [1, 2, 3, 4, 5, 6, 0] (L' := [(0, vR E 42), (1, vI v1), (2, vI v2), (3, vI v3), (4, vI v4), (5, vI v5), (6, vI 0)]) dX5_fillNets_160 (by decide) rfl ?_
    exact h
  · have h := h.2 c3
    refine go_iload_n 2 dX5_fillNets_81 rfl rfl ?_
    refine go_iload 6 dX5_fillNets_82 rfl ?_
    refine go_ishr dX5_fillNets_84 ?_
    refine go_iconst dX5_fillNets_85 ?_
    refine go_iand dX5_fillNets_86 ?_
    refine go_if_eq 153 dX5_fillNets_87 (by decide) (r32 _) (fun c6 => ?_) (fun c6 => ?_)
    · have h := h.1 c6
      refine go_iinc 6 [1, 2, 3, 4, 5, 6, 0] (L' := [(0, vR E 42), (1, vI v1), (2, vI v2), (3, vI v3), (4, vI v4), (5, vI v5), (6, vI (v6 + 1))]) dX5_fillNets_153 (by decide) rfl rfl ?_
      refine go_goto 69 dX5_fillNets_156 (by decide) ?_
      exact h
    · have h := h.2 c6
      obtain ⟨s8, h⟩ := h
      refine go_aload_n 0 dX5_fillNets_90 rfl rfl ?_
      refine go_getR 0 f_X5_42 rfl (hL.1 42 _ rfl) (hL.2.1 42 0 _ rfl (by decide)) dX5_fillNets_91 ?_
      refine go_getR 7 f_X5_136 rfl (hL.1 1 _ rfl) (hL.2.1 1 7 _ rfl (by decide)) dX5_fillNets_94 ?_
      refine go_iload 6 dX5_fillNets_97 rfl ?_
      refine go_iaload (hL.1 4 _ rfl) (b := 10) rfl (by decide) s8 dX5_fillNets_99 ?_
      refine go_iload_n 3 dX5_fillNets_100 rfl rfl ?_
      refine go_ishr dX5_fillNets_101 ?_
      refine go_istore [1, 2, 3, 4, 5, 6, 7, 0] (L' := [(0, vR E 42), (1, vI v1), (2, vI v2), (3, vI v3), (4, vI v4), (5, vI v5), (6, vI v6), (7, vI (iSr (D 4 v6) v3))]) dX5_fillNets_102 (by decide) rfl ?_
      refine go_iload 6 dX5_fillNets_104 rfl ?_
      refine go_bipush dX5_fillNets_106 (by decide) ?_
      refine go_imul dX5_fillNets_108 ?_
      refine go_istore [1, 2, 3, 4, 5, 6, 7, 8, 0] (L' := [(0, vR E 42), (1, vI v1), (2, vI v2), (3, vI v3), (4, vI v4), (5, vI v5), (6, vI v6), (7, vI (iSr (D 4 v6) v3)), (8, vI (v6 * 64))]) dX5_fillNets_109 (by decide) rfl ?_
      refine go_iconst dX5_fillNets_111 ?_
      refine go_istore [1, 2, 3, 4, 5, 6, 7, 8, 9, 0] (L' := [(0, vR E 42), (1, vI v1), (2, vI v2), (3, vI v3), (4, vI v4), (5, vI v5), (6, vI v6), (7, vI (iSr (D 4 v6) v3)), (8, vI (v6 * 64)), (9, vI 0)]) dX5_fillNets_112 (by decide) rfl ?_
      exact h
theorem s_X5_fillNets_114 {l : Launch} {E : Ev} {Q : Int → Sh → Dm → Prop} {G : Sh} {D : Dm} (hL : Lay G) {v1 v2 v3 v4 v5 v6 v7 v8 v9 : Int}  (h : ((-2147483648 ≤ v9 ∧ v9 < 2147483648) ∧ (-2147483648 ≤ v4 ∧ v4 < 2147483648)) ∧ ((v4 ≤ v9 → KX5_fillNets l E Q 69 [(0, vR E 42), (1, vI v1), (2, vI v2), (3, vI v3), (4, vI v4), (5, vI v5), (6, vI (v6 + 1))] G D) ∧ (v9 < v4 → ((0 ≤ v9 ∧ v9 < 64) ∧ (0 ≤ (v8 + v9) ∧ (v8 + v9) < 640) ∧ (-2147483648 ≤ (v7 * (D 45 (v8 + v9))) ∧ (v7 * (D 45 (v8 + v9))) < 2147483648) ∧ (-2147483648 ≤ ((D 44 v9) + (Int.tdiv (v7 * (D 45 (v8 + v9))) 8)) ∧ ((D 44 v9) + (Int.tdiv (v7 * (D 45 (v8 + v9))) 8)) < 2147483648)) ∧ KX5_fillNets l E Q 114 [(0, vR E 42), (1, vI v1), (2, vI v2), (3, vI v3), (4, vI v4), (5, vI v5), (6, vI v6), (7, vI v7), (8, vI v8), (9, vI (v9 + 1))] G (upd2 D 44 v9 ((D 44 v9) + (Int.tdiv (v7 * (D 45 (v8 + v9))) 8)))))) : KX5_fillNets l E Q 114 [(0, vR E 42), (1, vI v1), (2, vI v2), (3, vI v3), (4, vI v4), (5, vI v5), (6, vI v6), (7, vI v7), (8, vI v8), (9, vI v9)] G D := by
  obtain ⟨s1, h⟩ := h
  refine go_iload 9 dX5_fillNets_114 rfl ?_
  refine go_iload 4 dX5_fillNets_116 rfl ?_
  refine go_icmp_ge 153 dX5_fillNets_118 (by decide) s1.1 s1.2 (fun c2 => ?_) (fun c2 => ?_)
  · have h := h.1 c2
    refine go_iinc 6 [1, 2, 3, 4, 5, 6, 0, 7, 8, 9] (L' := [(0, vR E 42), (1, vI v1), (2, vI v2), (3, vI v3), (4, vI v4), (5, vI v5), (6, vI (v6 + 1)), (7, vI v7), (8, vI v8), (9, vI v9)]) dX5_fillNets_153 (by decide) rfl rfl ?_
    refine go_goto 69 dX5_fillNets_156 (by decide) ?_
    refine go_sub [0, 1, 2, 3, 4, 5, 6] (L' := [(0, vR E 42), (1, vI v1), (2, vI v2), (3, vI v3), (4, vI v4), (5, vI v5), (6, vI (v6 + 1))]) rfl ?_
    exact h
  · have h := h.2 c2
    obtain ⟨s4, h⟩ := h
    refine go_aload_n 0 dX5_fillNets_121 rfl rfl ?_
    refine go_getR 2 f_X5_15 rfl (hL.1 42 _ rfl) (hL.2.1 42 2 _ rfl (by decide)) dX5_fillNets_122 ?_
    refine go_iload 9 dX5_fillNets_125 rfl ?_
    refine go_dup2 rfl rfl dX5_fillNets_127 ?_
    refine go_iaload (hL.1 44 _ rfl) (b := 64) rfl (by decide) s4.1 dX5_fillNets_128 ?_
    refine go_iload 7 dX5_fillNets_129 rfl ?_
    refine go_aload_n 0 dX5_fillNets_131 rfl rfl ?_
    refine go_getR 6 f_X5_30 rfl (hL.1 42 _ rfl) (hL.2.1 42 6 _ rfl (by decide)) dX5_fillNets_132 ?_
    refine go_iload 8 dX5_fillNets_135 rfl ?_
    refine go_iload 9 dX5_fillNets_137 rfl ?_
    refine go_iadd dX5_fillNets_139 ?_
    refine go_iaload (hL.1 45 _ rfl) (b := 640) rfl (by decide) s4.2.1 dX5_fillNets_140 ?_
    refine go_imul dX5_fillNets_141 ?_
    refine go_bipush dX5_fillNets_142 (by decide) ?_
    refine go_idiv ⟨s4.2.2.1, (by decide)⟩ dX5_fillNets_144 ?_
    refine go_iadd dX5_fillNets_145 ?_
    refine go_iastore (hL.1 44 _ rfl) (b := 64) rfl (by decide) s4.1 s4.2.2.2 dX5_fillNets_146 ?_
    refine go_iinc 9 [1, 2, 3, 4, 5, 6, 7, 8, 9, 0] (L' := [(0, vR E 42), (1, vI v1), (2, vI v2), (3, vI v3), (4, vI v4), (5, vI v5), (6, vI v6), (7, vI v7), (8, vI v8), (9, vI (v9 + 1))]) dX5_fillNets_147 (by decide) rfl rfl ?_
    refine go_goto 114 dX5_fillNets_150 (by decide) ?_
    exact h
theorem s_X5_fillNets_162 {l : Launch} {E : Ev} {Q : Int → Sh → Dm → Prop} {G : Sh} {D : Dm} (hL : Lay G) {v1 v2 v3 v4 v5 v6 : Int}  (h : ((-2147483648 ≤ v6 ∧ v6 < 2147483648) ∧ (-2147483648 ≤ v4 ∧ v4 < 2147483648)) ∧ ((v4 ≤ v6 → Q 0 G D) ∧ (v6 < v4 → ((0 ≤ v6 ∧ v6 < 64)) ∧ ((0 ≤ (D 44 v6) → KX5_fillNets l E Q 162 [(0, vR E 42), (1, vI v1), (2, vI v2), (3, vI v3), (4, vI v4), (5, vI v5), (6, vI (v6 + 1))] G D) ∧ ((D 44 v6) < 0 → KX5_fillNets l E Q 162 [(0, vR E 42), (1, vI v1), (2, vI v2), (3, vI v3), (4, vI v4), (5, vI v5), (6, vI (v6 + 1))] G (upd2 D 44 v6 0)))))) : KX5_fillNets l E Q 162 [(0, vR E 42), (1, vI v1), (2, vI v2), (3, vI v3), (4, vI v4), (5, vI v5), (6, vI v6)] G D := by
  obtain ⟨s1, h⟩ := h
  refine go_iload 6 dX5_fillNets_162 rfl ?_
  refine go_iload 4 dX5_fillNets_164 rfl ?_
  refine go_icmp_ge 193 dX5_fillNets_166 (by decide) s1.1 s1.2 (fun c2 => ?_) (fun c2 => ?_)
  · have h := h.1 c2
    exact go_return (Nat.le_refl _) (Nat.le_refl _) rfl dX5_fillNets_193 h
  · have h := h.2 c2
    obtain ⟨s4, h⟩ := h
    refine go_aload_n 0 dX5_fillNets_169 rfl rfl ?_
    refine go_getR 2 f_X5_15 rfl (hL.1 42 _ rfl) (hL.2.1 42 2 _ rfl (by decide)) dX5_fillNets_170 ?_
    refine go_iload 6 dX5_fillNets_173 rfl ?_
    refine go_iaload (hL.1 44 _ rfl) (b := 64) rfl (by decide) s4 dX5_fillNets_175 ?_
    refine go_rngI (c := 44) (i := v6) (hL.1 44 _ rfl) rfl (fun (q5 : -2147483648 ≤ (D 44 v6) ∧ (D 44 v6) < 2147483648) => ?_)
    refine go_if_ge 187 dX5_fillNets_176 (by decide) q5 (fun c6 => ?_) (fun c6 => ?_)
    · have h := h.1 c6
      refine go_iinc 6 [1, 2, 3, 4, 5, 6, 0] (L' := [(0, vR E 42), (1, vI v1), (2, vI v2), (3, vI v3), (4, vI v4), (5, vI v5), (6, vI (v6 + 1))]) dX5_fillNets_187 (by decide) rfl rfl ?_
      refine go_goto 162 dX5_fillNets_190 (by decide) ?_
      exact h
    · have h := h.2 c6
      refine go_aload_n 0 dX5_fillNets_179 rfl rfl ?_
      refine go_getR 2 f_X5_15 rfl (hL.1 42 _ rfl) (hL.2.1 42 2 _ rfl (by decide)) dX5_fillNets_180 ?_
      refine go_iload 6 dX5_fillNets_183 rfl ?_
      refine go_iconst dX5_fillNets_185 ?_
      refine go_iastore (hL.1 44 _ rfl) (b := 64) rfl (by decide) s4 (by decide) dX5_fillNets_186 ?_
      refine go_iinc 6 [1, 2, 3, 4, 5, 6, 0] (L' := [(0, vR E 42), (1, vI v1), (2, vI v2), (3, vI v3), (4, vI v4), (5, vI v5), (6, vI (v6 + 1))]) dX5_fillNets_187 (by decide) rfl rfl ?_
      refine go_goto 162 dX5_fillNets_190 (by decide) ?_
      exact h
theorem s_X5_sumUp {l : Launch} {E : Ev} {Q : Int → Sh → Dm → Prop} {G : Sh} {D : Dm} (hL : Lay G) {v1 v2 : Int}  (h : C0 l E MX5_fillNets 2 [vR E 42, vI v1, vI v2, vI 0] G D (fun r2 D2 => ((0 ≤ v1 ∧ v1 < 4)) ∧ KX5_sumUp l E Q 39 [(0, vR E 42), (1, vI v1), (2, vI v2), (3, vI (D2 13 v1)), (4, vI (iSl 1 (D2 1 1))), (5, vI 0)] G (upd2 (upd2 D2 42 3 0) 42 4 0))) : Ct l E MX5_sumUp 2 0 0 [vR E 42, vI v1, vI v2] G D Q := by
  refine Ct.of (by decide) (Nat.le_of_ble_eq_true rfl) ?_
  show KX5_sumUp l E Q 0 [(0, vR E 42), (1, vI v1), (2, vI v2)] G D
  refine go_aload_n 0 dX5_sumUp_0 rfl rfl ?_
  refine go_iload_n 1 dX5_sumUp_1 rfl rfl ?_
  refine go_iload_n 2 dX5_sumUp_2 rfl rfl ?_
  refine go_iconst dX5_sumUp_3 ?_
  refine go_vV (M := MX5_fillNets) [vI v1, vI v2, vI 0] [] mv_X5_139 (hL.1 42 _ rfl) rfl (by decide) ⟨Nat.le_of_ble_eq_true rfl, Nat.le_of_ble_eq_true rfl⟩ ⟨Nat.le_refl _, Nat.le_refl _⟩ rfl rfl (Nat.le_of_ble_eq_true rfl) dX5_sumUp_4 h (fun r2 D2 h => ?_)
  obtain ⟨s3, h⟩ := h
  refine go_aload_n 0 dX5_sumUp_7 rfl rfl ?_
  refine go_getR 0 f_X5_42 rfl (hL.1 42 _ rfl) (hL.2.1 42 0 _ rfl (by decide)) dX5_sumUp_8 ?_
  refine go_getR 16 f_X5_143 rfl (hL.1 1 _ rfl) (hL.2.1 1 16 _ rfl (by decide)) dX5_sumUp_11 ?_
  refine go_iload_n 1 dX5_sumUp_14 rfl rfl ?_
  refine go_iaload (hL.1 13 _ rfl) (b := 4) rfl (by decide) s3 dX5_sumUp_15 ?_
  refine go_istore_n [1, 2, 3, 0] (L' := [(0, vR E 42), (1, vI v1), (2, vI v2), (3, vI (D2 13 v1))]) dX5_sumUp_16 rfl (by decide) rfl ?_
  refine go_aload_n 0 dX5_sumUp_17 rfl rfl ?_
  refine go_getR 0 f_X5_42 rfl (hL.1 42 _ rfl) (hL.2.1 42 0 _ rfl (by decide)) dX5_sumUp_18 ?_
  refine go_vIp (M := MX8_lots) [] [] mv_X5_69 (hL.1 1 _ rfl) rfl (by decide) ⟨Nat.le_of_ble_eq_true rfl, Nat.le_of_ble_eq_true rfl⟩ ⟨Nat.le_refl _, Nat.le_refl _⟩ rfl rfl (Nat.le_of_ble_eq_true rfl) dX5_sumUp_21 (p_X8_lots hL) ?_
  refine go_istore [1, 2, 3, 4, 0] (L' := [(0, vR E 42), (1, vI v1), (2, vI v2), (3, vI (D2 13 v1)), (4, vI (iSl 1 (D2 1 1)))]) dX5_sumUp_24 (by decide) rfl ?_
  refine go_aload_n 0 dX5_sumUp_26 rfl rfl ?_
  refine go_lconst (x := 0) dX5_sumUp_27 rfl ?_
  refine go_putJ 3 (i := 3) (by decide) f_X5_19 rfl (hL.1 42 _ rfl) dX5_sumUp_28 ?_
  refine go_aload_n 0 dX5_sumUp_31 rfl rfl ?_
  refine go_lconst (x := 0) dX5_sumUp_32 rfl ?_
  refine go_putJ 4 (i := 4) (by decide) f_X5_23 rfl (hL.1 42 _ rfl) dX5_sumUp_33 ?_
  refine go_iconst dX5_sumUp_36 ?_
  refine go_istore [1, 2, 3, 4, 5, 0] (L' := [(0, vR E 42), (1, vI v1), (2, vI v2), (3, vI (D2 13 v1)), (4, vI (iSl 1 (D2 1 1))), (5, vI 0)]) dX5_sumUp_37 (by decide) rfl ?_
  exact h
theorem s_X5_sumUp_39 {l : Launch} {E : Ev} {Q : Int → Sh → Dm → Prop} {G : Sh} {D : Dm} (hL : Lay G) {v1 v2 v3 v4 v5 : Int}  (h : ((-2147483648 ≤ v5 ∧ v5 < 2147483648) ∧ (-2147483648 ≤ v4 ∧ v4 < 2147483648)) ∧ ((v4 ≤ v5 → Q 0 G D) ∧ (v5 < v4 → ((0 ≤ v5 ∧ v5 < 64) ∧ (-9223372036854775808 ≤ ((D 42 3) + ((D 43 v5) * (D 44 v5))) ∧ ((D 42 3) + ((D 43 v5) * (D 44 v5))) < 9223372036854775808) ∧ (-2147483648 ≤ v3 ∧ v3 < 2147483648)) ∧ ((v3 ≤ (D 44 v5) → KX5_sumUp l E Q 39 [(0, vR E 42), (1, vI v1), (2, vI v2), (3, vI v3), (4, vI v4), (5, vI (v5 + 1))] G (upd2 D 42 3 ((D 42 3) + ((D 43 v5) * (D 44 v5))))) ∧ ((D 44 v5) < v3 → ((-2147483648 ≤ (v3 - (D 44 v5)) ∧ (v3 - (D 44 v5)) < 2147483648) ∧ (-9223372036854775808 ≤ ((D 42 4) + ((D 43 v5) * (v3 - (D 44 v5)))) ∧ ((D 42 4) + ((D 43 v5) * (v3 - (D 44 v5)))) < 9223372036854775808)) ∧ KX5_sumUp l E Q 39 [(0, vR E 42), (1, vI v1), (2, vI v2), (3, vI v3), (4, vI v4), (5, vI (v5 + 1))] G (upd2 (upd2 D 42 3 ((D 42 3) + ((D 43 v5) * (D 44 v5)))) 42 4 ((D 42 4) + ((D 43 v5) * (v3 - (D 44 v5)))))))))) : KX5_sumUp l E Q 39 [(0, vR E 42), (1, vI v1), (2, vI v2), (3, vI v3), (4, vI v4), (5, vI v5)] G D := by
  obtain ⟨s1, h⟩ := h
  refine go_iload 5 dX5_sumUp_39 rfl ?_
  refine go_iload 4 dX5_sumUp_41 rfl ?_
  refine go_icmp_ge 109 dX5_sumUp_43 (by decide) s1.1 s1.2 (fun c2 => ?_) (fun c2 => ?_)
  · have h := h.1 c2
    exact go_return (Nat.le_refl _) (Nat.le_refl _) rfl dX5_sumUp_109 h
  · have h := h.2 c2
    obtain ⟨s4, h⟩ := h
    refine go_aload_n 0 dX5_sumUp_46 rfl rfl ?_
    refine go_getR 2 f_X5_15 rfl (hL.1 42 _ rfl) (hL.2.1 42 2 _ rfl (by decide)) dX5_sumUp_47 ?_
    refine go_iload 5 dX5_sumUp_50 rfl ?_
    refine go_iaload (hL.1 44 _ rfl) (b := 64) rfl (by decide) s4.1 dX5_sumUp_52 ?_
    refine go_istore [1, 2, 3, 4, 5, 6, 0] (L' := [(0, vR E 42), (1, vI v1), (2, vI v2), (3, vI v3), (4, vI v4), (5, vI v5), (6, vI (D 44 v5))]) dX5_sumUp_53 (by decide) rfl ?_
    refine go_aload_n 0 dX5_sumUp_55 rfl rfl ?_
    refine go_dup rfl dX5_sumUp_56 ?_
    refine go_getJ 3 (i := 3) f_X5_19 rfl (hL.1 42 _ rfl) dX5_sumUp_57 ?_
    refine go_aload_n 0 dX5_sumUp_60 rfl rfl ?_
    refine go_getR 1 f_X5_9 rfl (hL.1 42 _ rfl) (hL.2.1 42 1 _ rfl (by decide)) dX5_sumUp_61 ?_
    refine go_iload 5 dX5_sumUp_64 rfl ?_
    refine go_laload (hL.1 43 _ rfl) (b := 64) rfl (by decide) s4.1 dX5_sumUp_66 ?_
    refine go_iload 6 dX5_sumUp_67 rfl ?_
    refine go_rngI (c := 44) (i := v5) (hL.1 44 _ rfl) rfl (fun (q5 : -2147483648 ≤ (D 44 v5) ∧ (D 44 v5) < 2147483648) => ?_)
    refine go_i2l q5 dX5_sumUp_69 ?_
    refine go_lmul dX5_sumUp_70 ?_
    refine go_ladd dX5_sumUp_71 ?_
    refine go_putJ 3 (i := 3) s4.2.1 f_X5_19 rfl (hL.1 42 _ rfl) dX5_sumUp_72 ?_
    refine go_iload 6 dX5_sumUp_75 rfl ?_
    refine go_iload_n 3 dX5_sumUp_77 rfl rfl ?_
    refine go_icmp_ge 103 dX5_sumUp_78 (by decide) q5 s4.2.2 (fun c6 => ?_) (fun c6 => ?_)
    · have h := h.1 c6
      refine go_iinc 5 [1, 2, 3, 4, 5, 0, 6] (L' := [(0, vR E 42), (1, vI v1), (2, vI v2), (3, vI v3), (4, vI v4), (5, vI (v5 + 1)), (6, vI (D 44 v5))]) dX5_sumUp_103 (by decide) rfl rfl ?_
      refine go_goto 39 dX5_sumUp_106 (by decide) ?_
      refine go_sub [0, 1, 2, 3, 4, 5] (L' := [(0, vR E 42), (1, vI v1), (2, vI v2), (3, vI v3), (4, vI v4), (5, vI (v5 + 1))]) rfl ?_
      exact h
    · have h := h.2 c6
      obtain ⟨s8, h⟩ := h
      refine go_aload_n 0 dX5_sumUp_81 rfl rfl ?_
      refine go_dup rfl dX5_sumUp_82 ?_
      refine go_getJ 4 (i := 4) f_X5_23 rfl (hL.1 42 _ rfl) dX5_sumUp_83 ?_
      refine go_aload_n 0 dX5_sumUp_86 rfl rfl ?_
      refine go_getR 1 f_X5_9 rfl (hL.1 42 _ rfl) (hL.2.1 42 1 _ rfl (by decide)) dX5_sumUp_87 ?_
      refine go_iload 5 dX5_sumUp_90 rfl ?_
      refine go_laload (hL.1 43 _ rfl) (b := 64) rfl (by decide) s4.1 dX5_sumUp_92 ?_
      refine go_iload_n 3 dX5_sumUp_93 rfl rfl ?_
      refine go_iload 6 dX5_sumUp_94 rfl ?_
      refine go_isub dX5_sumUp_96 ?_
      refine go_i2l s8.1 dX5_sumUp_97 ?_
      refine go_lmul dX5_sumUp_98 ?_
      refine go_ladd dX5_sumUp_99 ?_
      refine go_putJ 4 (i := 4) s8.2 f_X5_23 rfl (hL.1 42 _ rfl) dX5_sumUp_100 ?_
      refine go_iinc 5 [1, 2, 3, 4, 5, 0, 6] (L' := [(0, vR E 42), (1, vI v1), (2, vI v2), (3, vI v3), (4, vI v4), (5, vI (v5 + 1)), (6, vI (D 44 v5))]) dX5_sumUp_103 (by decide) rfl rfl ?_
      refine go_goto 39 dX5_sumUp_106 (by decide) ?_
      refine go_sub [0, 1, 2, 3, 4, 5] (L' := [(0, vR E 42), (1, vI v1), (2, vI v2), (3, vI v3), (4, vI v4), (5, vI (v5 + 1))]) rfl ?_
      exact h
theorem s_X5_worthOf {l : Launch} {E : Ev} {Q : Int → Sh → Dm → Prop} {G : Sh} {D : Dm} (hL : Lay G) {v1 v2 : Int}  (h : C0 l E MX5_sumUp 2 [vR E 42, vI v1, vI v2] G D (fun r2 D2 => Q ((D2 42 3) - ((D2 1 4) * (D2 42 4))) G D2)) : Ct l E MX5_worthOf 1 0 0 [vR E 42, vI v1, vI v2] G D Q := by
  refine Ct.of (by decide) (Nat.le_of_ble_eq_true rfl) ?_
  show KX5_worthOf l E Q 0 [(0, vR E 42), (1, vI v1), (2, vI v2)] G D
  refine go_aload_n 0 dX5_worthOf_0 rfl rfl ?_
  refine go_iload_n 1 dX5_worthOf_1 rfl rfl ?_
  refine go_iload_n 2 dX5_worthOf_2 rfl rfl ?_
  refine go_vV (M := MX5_sumUp) [vI v1, vI v2] [] mv_X5_146 (hL.1 42 _ rfl) rfl (by decide) ⟨Nat.le_of_ble_eq_true rfl, Nat.le_of_ble_eq_true rfl⟩ ⟨Nat.le_refl _, Nat.le_refl _⟩ rfl rfl (Nat.le_of_ble_eq_true rfl) dX5_worthOf_3 h (fun r2 D2 h => ?_)
  refine go_aload_n 0 dX5_worthOf_6 rfl rfl ?_
  refine go_getJ 3 (i := 3) f_X5_19 rfl (hL.1 42 _ rfl) dX5_worthOf_7 ?_
  refine go_aload_n 0 dX5_worthOf_10 rfl rfl ?_
  refine go_getR 0 f_X5_42 rfl (hL.1 42 _ rfl) (hL.2.1 42 0 _ rfl (by decide)) dX5_worthOf_11 ?_
  refine go_getI 4 (i := 4) f_X5_149 rfl (hL.1 1 _ rfl) dX5_worthOf_14 ?_
  refine go_rngI (c := 1) (i := 4) (hL.1 1 _ rfl) rfl (fun (q4 : -2147483648 ≤ (D2 1 4) ∧ (D2 1 4) < 2147483648) => ?_)
  refine go_i2l q4 dX5_worthOf_17 ?_
  refine go_aload_n 0 dX5_worthOf_18 rfl rfl ?_
  refine go_getJ 4 (i := 4) f_X5_23 rfl (hL.1 42 _ rfl) dX5_worthOf_19 ?_
  refine go_lmul dX5_worthOf_22 ?_
  refine go_lsub dX5_worthOf_23 ?_
  exact go_lreturn (Nat.le_refl _) (Nat.le_refl _) rfl dX5_worthOf_24 h
theorem s_X5_hungryYears {l : Launch} {E : Ev} {Q : Int → Sh → Dm → Prop} {G : Sh} {D : Dm} (hL : Lay G) {v1 v2 v4 : Int} {c : Nat} (hc : G.1[c]? = some (101, 60)) (h : C0 l E MX5_fillNets 2 [vR E 42, vI v1, vI v2, vI 0] G D (fun r2 D2 => KX5_hungryYears l E Q 13 [(0, vR E 42), (1, vI v1), (2, vI v2), (3, vR E c), (4, vI v4), (5, vI 0), (6, vI 0)] G D2)) : Ct l E MX5_hungryYears 0 0 0 [vR E 42, vI v1, vI v2, vR E c, vI v4] G D Q := by
  refine Ct.of (by decide) (Nat.le_of_ble_eq_true rfl) ?_
  show KX5_hungryYears l E Q 0 [(0, vR E 42), (1, vI v1), (2, vI v2), (3, vR E c), (4, vI v4)] G D
  refine go_aload_n 0 dX5_hungryYears_0 rfl rfl ?_
  refine go_iload_n 1 dX5_hungryYears_1 rfl rfl ?_
  refine go_iload_n 2 dX5_hungryYears_2 rfl rfl ?_
  refine go_iconst dX5_hungryYears_3 ?_
  refine go_vV (M := MX5_fillNets) [vI v1, vI v2, vI 0] [] mv_X5_139 (hL.1 42 _ rfl) rfl (by decide) ⟨Nat.le_of_ble_eq_true rfl, Nat.le_of_ble_eq_true rfl⟩ ⟨Nat.le_refl _, Nat.le_refl _⟩ rfl rfl (Nat.le_of_ble_eq_true rfl) dX5_hungryYears_4 h (fun r2 D2 h => ?_)
  refine go_iconst dX5_hungryYears_7 ?_
  refine go_istore [1, 2, 3, 4, 5, 0] (L' := [(0, vR E 42), (1, vI v1), (2, vI v2), (3, vR E c), (4, vI v4), (5, vI 0)]) dX5_hungryYears_8 (by decide) rfl ?_
  refine go_iconst dX5_hungryYears_10 ?_
  refine go_istore [1, 2, 3, 4, 5, 6, 0] (L' := [(0, vR E 42), (1, vI v1), (2, vI v2), (3, vR E c), (4, vI v4), (5, vI 0), (6, vI 0)]) dX5_hungryYears_11 (by decide) rfl ?_
  exact h
theorem s_X5_hungryYears_13 {l : Launch} {E : Ev} {Q : Int → Sh → Dm → Prop} {G : Sh} {D : Dm} (hL : Lay G) {v1 v2 v4 v5 v6 : Int} {c : Nat} (hc : G.1[c]? = some (101, 60)) (h : ((-2147483648 ≤ v6 ∧ v6 < 2147483648) ∧ (-2147483648 ≤ v4 ∧ v4 < 2147483648)) ∧ ((v4 ≤ v6 → Q v5 G D) ∧ (v6 < v4 → ((0 ≤ v6 ∧ v6 < 60) ∧ (-2147483648 ≤ (D c v6) ∧ (D c v6) < 2147483648)) ∧ ((¬ ((0 ≤ (D c v6)) ∧ ((D c v6) < (iSl 1 (D 1 1)))) → KX5_hungryYears l E Q 13 [(0, vR E 42), (1, vI v1), (2, vI v2), (3, vR E c), (4, vI v4), (5, vI v5), (6, vI (v6 + 1))] G D) ∧ (((0 ≤ (D c v6)) ∧ ((D c v6) < (iSl 1 (D 1 1)))) → ((0 ≤ (D c v6) ∧ (D c v6) < 64) ∧ (0 ≤ v1 ∧ v1 < 4)) ∧ (((D 13 v1) ≤ (D 44 (D c v6)) → KX5_hungryYears l E Q 13 [(0, vR E 42), (1, vI v1), (2, vI v2), (3, vR E c), (4, vI v4), (5, vI v5), (6, vI (v6 + 1))] G D) ∧ ((D 44 (D c v6)) < (D 13 v1) → KX5_hungryYears l E Q 13 [(0, vR E 42), (1, vI v1), (2, vI v2), (3, vR E c), (4, vI v4), (5, vI (v5 + 1)), (6, vI (v6 + 1))] G D))))))) : KX5_hungryYears l E Q 13 [(0, vR E 42), (1, vI v1), (2, vI v2), (3, vR E c), (4, vI v4), (5, vI v5), (6, vI v6)] G D := by
  obtain ⟨s1, h⟩ := h
  refine go_iload 6 dX5_hungryYears_13 rfl ?_
  refine go_iload 4 dX5_hungryYears_15 rfl ?_
  refine go_icmp_ge 67 dX5_hungryYears_17 (by decide) s1.1 s1.2 (fun c2 => ?_) (fun c2 => ?_)
  · have h := h.1 c2
    refine go_iload 5 dX5_hungryYears_67 rfl ?_
    exact go_ireturn (Nat.le_refl _) (Nat.le_refl _) rfl dX5_hungryYears_69 h
  · have h := h.2 c2
    obtain ⟨s4, h⟩ := h
    refine go_aload_n 3 dX5_hungryYears_20 rfl rfl ?_
    refine go_iload 6 dX5_hungryYears_21 rfl ?_
    refine go_laload hc (b := 60) rfl (by decide) s4.1 dX5_hungryYears_23 ?_
    refine go_l2i dX5_hungryYears_24 ?_
    refine go_istore [1, 2, 3, 4, 5, 6, 7, 0] (L' := [(0, vR E 42), (1, vI v1), (2, vI v2), (3, vR E c), (4, vI v4), (5, vI v5), (6, vI v6), (7, vI (D c v6))]) dX5_hungryYears_25 (by decide) rfl ?_
    refine go_aload_n 0 dX5_hungryYears_27 rfl rfl ?_
    refine go_getR 0 f_X5_42 rfl (hL.1 42 _ rfl) (hL.2.1 42 0 _ rfl (by decide)) dX5_hungryYears_28 ?_
    refine go_iload 7 dX5_hungryYears_31 rfl ?_
    refine go_vIp (M := MX8_hasLot) [vI (D c v6)] [] mv_X5_165 (hL.1 1 _ rfl) rfl (by decide) ⟨Nat.le_of_ble_eq_true rfl, Nat.le_of_ble_eq_true rfl⟩ ⟨Nat.le_refl _, Nat.le_refl _⟩ rfl rfl (Nat.le_of_ble_eq_true rfl) dX5_hungryYears_33 (p_X8_hasLot hL s4.2) ?_
    refine go_ifb_eq 61 dX5_hungryYears_36 (by decide) (fun c6 => ?_) (fun c6 => ?_)
    · have h := h.1 c6
      refine go_iinc 6 [1, 2, 3, 4, 5, 6, 0, 7] (L' := [(0, vR E 42), (1, vI v1), (2, vI v2), (3, vR E c), (4, vI v4), (5, vI v5), (6, vI (v6 + 1)), (7, vI (D c v6))]) dX5_hungryYears_61 (by decide) rfl rfl ?_
      refine go_goto 13 dX5_hungryYears_64 (by decide) ?_
      refine go_sub [0, 1, 2, 3, 4, 5, 6] (L' := [(0, vR E 42), (1, vI v1), (2, vI v2), (3, vR E c), (4, vI v4), (5, vI v5), (6, vI (v6 + 1))]) rfl ?_
      exact h
    · have h := h.2 c6
      obtain ⟨s8, h⟩ := h
      refine go_aload_n 0 dX5_hungryYears_39 rfl rfl ?_
      refine go_getR 2 f_X5_15 rfl (hL.1 42 _ rfl) (hL.2.1 42 2 _ rfl (by decide)) dX5_hungryYears_40 ?_
      refine go_iload 7 dX5_hungryYears_43 rfl ?_
      refine go_iaload (hL.1 44 _ rfl) (b := 64) rfl (by decide) s8.1 dX5_hungryYears_45 ?_
      refine go_aload_n 0 dX5_hungryYears_46 rfl rfl ?_
      refine go_getR 0 f_X5_42 rfl (hL.1 42 _ rfl) (hL.2.1 42 0 _ rfl (by decide)) dX5_hungryYears_47 ?_
      refine go_getR 16 f_X5_143 rfl (hL.1 1 _ rfl) (hL.2.1 1 16 _ rfl (by decide)) dX5_hungryYears_50 ?_
      refine go_iload_n 1 dX5_hungryYears_53 rfl rfl ?_
      refine go_iaload (hL.1 13 _ rfl) (b := 4) rfl (by decide) s8.2 dX5_hungryYears_54 ?_
      refine go_rngI (c := 44) (i := (D c v6)) (hL.1 44 _ rfl) rfl (fun (q9 : -2147483648 ≤ (D 44 (D c v6)) ∧ (D 44 (D c v6)) < 2147483648) => ?_)
      refine go_rngI (c := 13) (i := v1) (hL.1 13 _ rfl) rfl (fun (q10 : -2147483648 ≤ (D 13 v1) ∧ (D 13 v1) < 2147483648) => ?_)
      refine go_icmp_ge 61 dX5_hungryYears_55 (by decide) q9 q10 (fun c11 => ?_) (fun c11 => ?_)
      · have h := h.1 c11
        refine go_iinc 6 [1, 2, 3, 4, 5, 6, 0, 7] (L' := [(0, vR E 42), (1, vI v1), (2, vI v2), (3, vR E c), (4, vI v4), (5, vI v5), (6, vI (v6 + 1)), (7, vI (D c v6))]) dX5_hungryYears_61 (by decide) rfl rfl ?_
        refine go_goto 13 dX5_hungryYears_64 (by decide) ?_
        refine go_sub [0, 1, 2, 3, 4, 5, 6] (L' := [(0, vR E 42), (1, vI v1), (2, vI v2), (3, vR E c), (4, vI v4), (5, vI v5), (6, vI (v6 + 1))]) rfl ?_
        exact h
      · have h := h.2 c11
        refine go_iinc 5 [1, 2, 3, 4, 5, 0, 6, 7] (L' := [(0, vR E 42), (1, vI v1), (2, vI v2), (3, vR E c), (4, vI v4), (5, vI (v5 + 1)), (6, vI v6), (7, vI (D c v6))]) dX5_hungryYears_58 (by decide) rfl rfl ?_
        refine go_iinc 6 [1, 2, 3, 4, 5, 6, 0, 7] (L' := [(0, vR E 42), (1, vI v1), (2, vI v2), (3, vR E c), (4, vI v4), (5, vI (v5 + 1)), (6, vI (v6 + 1)), (7, vI (D c v6))]) dX5_hungryYears_61 (by decide) rfl rfl ?_
        refine go_goto 13 dX5_hungryYears_64 (by decide) ?_
        refine go_sub [0, 1, 2, 3, 4, 5, 6] (L' := [(0, vR E 42), (1, vI v1), (2, vI v2), (3, vR E c), (4, vI v4), (5, vI (v5 + 1)), (6, vI (v6 + 1))]) rfl ?_
        exact h
theorem s_X5_weightAtMost {l : Launch} {E : Ev} {Q : Int → Sh → Dm → Prop} {G : Sh} {D : Dm} (hL : Lay G) {v1 : Int}  (h : KX5_weightAtMost l E Q 5 [(0, vR E 42), (1, vI v1), (2, vJ 0), (4, vI 0)] G D) : Ct l E MX5_weightAtMost 1 0 0 [vR E 42, vI v1] G D Q := by
  refine Ct.of (by decide) (Nat.le_of_ble_eq_true rfl) ?_
  show KX5_weightAtMost l E Q 0 [(0, vR E 42), (1, vI v1)] G D
  refine go_lconst (x := 0) dX5_weightAtMost_0 rfl ?_
  refine go_lstore_n [1, 2, 0] (L' := [(0, vR E 42), (1, vI v1), (2, vJ 0)]) dX5_weightAtMost_1 rfl (by decide) rfl ?_
  refine go_iconst dX5_weightAtMost_2 ?_
  refine go_istore [1, 2, 3, 0] (L' := [(0, vR E 42), (1, vI v1), (2, vJ 0), (4, vI 0)]) dX5_weightAtMost_3 (by decide) rfl ?_
  exact h
theorem s_X5_weightAtMost_5 {l : Launch} {E : Ev} {Q : Int → Sh → Dm → Prop} {G : Sh} {D : Dm} (hL : Lay G) {v1 v2 v4 : Int}  (h : ((-2147483648 ≤ v4 ∧ v4 < 2147483648)) ∧ (((iSl 1 (D 1 1)) ≤ v4 → Q v2 G D) ∧ (v4 < (iSl 1 (D 1 1)) → ((0 ≤ v4 ∧ v4 < 64) ∧ (-2147483648 ≤ v1 ∧ v1 < 2147483648)) ∧ ((v1 < (D 44 v4) → KX5_weightAtMost l E Q 5 [(0, vR E 42), (1, vI v1), (2, vJ v2), (4, vI (v4 + 1))] G D) ∧ ((D 44 v4) ≤ v1 → KX5_weightAtMost l E Q 5 [(0, vR E 42), (1, vI v1), (2, vJ (v2 + (D 43 v4))), (4, vI (v4 + 1))] G D))))) : KX5_weightAtMost l E Q 5 [(0, vR E 42), (1, vI v1), (2, vJ v2), (4, vI v4)] G D := by
  obtain ⟨s1, h⟩ := h
  refine go_iload 3 dX5_weightAtMost_5 rfl ?_
  refine go_aload_n 0 dX5_weightAtMost_7 rfl rfl ?_
  refine go_getR 0 f_X5_42 rfl (hL.1 42 _ rfl) (hL.2.1 42 0 _ rfl (by decide)) dX5_weightAtMost_8 ?_
  refine go_vIp (M := MX8_lots) [] [vI v4] mv_X5_69 (hL.1 1 _ rfl) rfl (by decide) ⟨Nat.le_of_ble_eq_true rfl, Nat.le_of_ble_eq_true rfl⟩ ⟨Nat.le_refl _, Nat.le_refl _⟩ rfl rfl (Nat.le_of_ble_eq_true rfl) dX5_weightAtMost_11 (p_X8_lots hL) ?_
  refine go_icmp_ge 44 dX5_weightAtMost_14 (by decide) s1 (r32 _) (fun c3 => ?_) (fun c3 => ?_)
  · have h := h.1 c3
    refine go_lload_n 2 dX5_weightAtMost_44 rfl rfl ?_
    exact go_lreturn (Nat.le_refl _) (Nat.le_refl _) rfl dX5_weightAtMost_45 h
  · have h := h.2 c3
    obtain ⟨s5, h⟩ := h
    refine go_aload_n 0 dX5_weightAtMost_17 rfl rfl ?_
    refine go_getR 2 f_X5_15 rfl (hL.1 42 _ rfl) (hL.2.1 42 2 _ rfl (by decide)) dX5_weightAtMost_18 ?_
    refine go_iload 3 dX5_weightAtMost_21 rfl ?_
    refine go_iaload (hL.1 44 _ rfl) (b := 64) rfl (by decide) s5.1 dX5_weightAtMost_23 ?_
    refine go_iload_n 1 dX5_weightAtMost_24 rfl rfl ?_
    refine go_rngI (c := 44) (i := v4) (hL.1 44 _ rfl) rfl (fun (q6 : -2147483648 ≤ (D 44 v4) ∧ (D 44 v4) < 2147483648) => ?_)
    refine go_icmp_gt 38 dX5_weightAtMost_25 (by decide) q6 s5.2 (fun c7 => ?_) (fun c7 => ?_)
    · have h := h.1 c7
      refine go_iinc 3 [1, 2, 3, 0] (L' := [(0, vR E 42), (1, vI v1), (2, vJ v2), (4, vI (v4 + 1))]) dX5_weightAtMost_38 (by decide) rfl rfl ?_
      refine go_goto 5 dX5_weightAtMost_41 (by decide) ?_
      exact h
    · have h := h.2 c7
      refine go_lload_n 2 dX5_weightAtMost_28 rfl rfl ?_
      refine go_aload_n 0 dX5_weightAtMost_29 rfl rfl ?_
      refine go_getR 1 f_X5_9 rfl (hL.1 42 _ rfl) (hL.2.1 42 1 _ rfl (by decide)) dX5_weightAtMost_30 ?_
      refine go_iload 3 dX5_weightAtMost_33 rfl ?_
      refine go_laload (hL.1 43 _ rfl) (b := 64) rfl (by decide) s5.1 dX5_weightAtMost_35 ?_
      refine go_ladd dX5_weightAtMost_36 ?_
      refine go_lstore_n [1, 2, 0, 3] (L' := [(0, vR E 42), (1, vI v1), (2, vJ (v2 + (D 43 v4))), (4, vI v4)]) dX5_weightAtMost_37 rfl (by decide) rfl ?_
      refine go_iinc 3 [1, 2, 3, 0] (L' := [(0, vR E 42), (1, vI v1), (2, vJ (v2 + (D 43 v4))), (4, vI (v4 + 1))]) dX5_weightAtMost_38 (by decide) rfl rfl ?_
      refine go_goto 5 dX5_weightAtMost_41 (by decide) ?_
      exact h
theorem s_X5_forget {l : Launch} {E : Ev} {Q : Int → Sh → Dm → Prop} {G : Sh} {D : Dm} (hL : Lay G)  (h : Q 0 G (upd2 D 42 5 0)) : Ct l E MX5_forget 2 0 0 [vR E 42] G D Q := by
  refine Ct.of (by decide) (Nat.le_of_ble_eq_true rfl) ?_
  show KX5_forget l E Q 0 [(0, vR E 42)] G D
  refine go_aload_n 0 dX5_forget_0 rfl rfl ?_
  refine go_iconst dX5_forget_1 ?_
  refine go_putZ 5 (i := 5) (by decide) f_X5_26 rfl (hL.1 42 _ rfl) dX5_forget_2 ?_
  exact go_return (Nat.le_refl _) (Nat.le_refl _) rfl dX5_forget_5 h
theorem p_X5_forget {l : Launch} {E : Ev} {G : Sh} {D : Dm} (hL : Lay G)   : C0 l E MX5_forget 2 [vR E 42] G D (fun r D' => r = 0 ∧ D' = (upd2 D 42 5 0)) := s_X5_forget hL ⟨rfl, rfl, rfl⟩
theorem s_X5_weightOf {l : Launch} {E : Ev} {Q : Int → Sh → Dm → Prop} {G : Sh} {D : Dm} (hL : Lay G) {v1 v2 v3 : Int}  (h : KX5_weightOf l E Q 6 [(0, vR E 42), (1, vI v1), (2, vI v2), (3, vI v3), (4, vJ 1), (6, vI 0)] G D) : Ct l E MX5_weightOf 1 0 0 [vR E 42, vI v1, vI v2, vI v3] G D Q := by
  refine Ct.of (by decide) (Nat.le_of_ble_eq_true rfl) ?_
  show KX5_weightOf l E Q 0 [(0, vR E 42), (1, vI v1), (2, vI v2), (3, vI v3)] G D
  refine go_lconst (x := 1) dX5_weightOf_0 rfl ?_
  refine go_lstore [1, 2, 3, 4, 0] (L' := [(0, vR E 42), (1, vI v1), (2, vI v2), (3, vI v3), (4, vJ 1)]) dX5_weightOf_1 (by decide) rfl ?_
  refine go_iconst dX5_weightOf_3 ?_
  refine go_istore [1, 2, 3, 4, 5, 0] (L' := [(0, vR E 42), (1, vI v1), (2, vI v2), (3, vI v3), (4, vJ 1), (6, vI 0)]) dX5_weightOf_4 (by decide) rfl ?_
  exact h
theorem s_X5_weightOf_6 {l : Launch} {E : Ev} {Q : Int → Sh → Dm → Prop} {G : Sh} {D : Dm} (hL : Lay G) {v1 v2 v3 v4 v6 : Int}  (h : ((-2147483648 ≤ v6 ∧ v6 < 2147483648)) ∧ (((D 1 1) ≤ v6 → Q v4 G D) ∧ (v6 < (D 1 1) → ((-2147483648 ≤ v2 ∧ v2 < 2147483648)) ∧ ((v6 ≠ v2 → ((0 ≤ v6 ∧ v6 < 6)) ∧ (((iA (iSr v1 v6) 1) = 0 → ((-2147483648 ≤ (16 - (D 9 v6)) ∧ (16 - (D 9 v6)) < 2147483648)) ∧ KX5_weightOf l E Q 6 [(0, vR E 42), (1, vI v1), (2, vI v2), (3, vI v3), (4, vJ (v4 * (16 - (D 9 v6)))), (6, vI (v6 + 1))] G D) ∧ ((iA (iSr v1 v6) 1) ≠ 0 → KX5_weightOf l E Q 6 [(0, vR E 42), (1, vI v1), (2, vI v2), (3, vI v3), (4, vJ (v4 * (D 9 v6))), (6, vI (v6 + 1))] G D))) ∧ (v6 = v2 → (((iA (iSr v1 v6) 1) = 0 → ((-2147483648 ≤ (16 - v3) ∧ (16 - v3) < 2147483648)) ∧ KX5_weightOf l E Q 6 [(0, vR E 42), (1, vI v1), (2, vI v2), (3, vI v3), (4, vJ (v4 * (16 - v3))), (6, vI (v6 + 1))] G D) ∧ ((iA (iSr v1 v6) 1) ≠ 0 → ((-2147483648 ≤ v3 ∧ v3 < 2147483648)) ∧ KX5_weightOf l E Q 6 [(0, vR E 42), (1, vI v1), (2, vI v2), (3, vI v3), (4, vJ (v4 * v3)), (6, vI (v6 + 1))] G D))))))) : KX5_weightOf l E Q 6 [(0, vR E 42), (1, vI v1), (2, vI v2), (3, vI v3), (4, vJ v4), (6, vI v6)] G D := by
  obtain ⟨s1, h⟩ := h
  refine go_iload 5 dX5_weightOf_6 rfl ?_
  refine go_aload_n 0 dX5_weightOf_8 rfl rfl ?_
  refine go_getR 0 f_X5_42 rfl (hL.1 42 _ rfl) (hL.2.1 42 0 _ rfl (by decide)) dX5_weightOf_9 ?_
  refine go_getI 1 (i := 1) f_X5_77 rfl (hL.1 1 _ rfl) dX5_weightOf_12 ?_
  refine go_rngI (c := 1) (i := 1) (hL.1 1 _ rfl) rfl (fun (q2 : -2147483648 ≤ (D 1 1) ∧ (D 1 1) < 2147483648) => ?_)
  refine go_icmp_ge 72 dX5_weightOf_15 (by decide) s1 q2 (fun c3 => ?_) (fun c3 => ?_)
  · have h := h.1 c3
    refine go_lload 4 dX5_weightOf_72 rfl ?_
    exact go_lreturn (Nat.le_refl _) (Nat.le_refl _) rfl dX5_weightOf_74 h
  · have h := h.2 c3
    obtain ⟨s5, h⟩ := h
    refine go_iload 5 dX5_weightOf_18 rfl ?_
    refine go_iload_n 2 dX5_weightOf_20 rfl rfl ?_
    refine go_icmp_ne 28 dX5_weightOf_21 (by decide) s1 s5 (fun c6 => ?_) (fun c6 => ?_)
    · have h := h.1 c6
      obtain ⟨s7, h⟩ := h
      refine go_aload_n 0 dX5_weightOf_28 rfl rfl ?_
      refine go_getR 0 f_X5_42 rfl (hL.1 42 _ rfl) (hL.2.1 42 0 _ rfl (by decide)) dX5_weightOf_29 ?_
      refine go_getR 12 f_X5_80 rfl (hL.1 1 _ rfl) (hL.2.1 1 12 _ rfl (by decide)) dX5_weightOf_32 ?_
      refine go_iload 5 dX5_weightOf_35 rfl ?_
      refine go_iaload (hL.1 9 _ rfl) (b := 6) rfl (by decide) s7 dX5_weightOf_37 ?_
      refine go_istore [1, 2, 3, 4, 5, 6, 0] (L' := [(0, vR E 42), (1, vI v1), (2, vI v2), (3, vI v3), (4, vJ v4), (6, vI v6), (7, vI (D 9 v6))]) dX5_weightOf_38 (by decide) rfl ?_
      refine go_lload 4 dX5_weightOf_40 rfl ?_
      refine go_iload_n 1 dX5_weightOf_42 rfl rfl ?_
      refine go_iload 5 dX5_weightOf_43 rfl ?_
      refine go_ishr dX5_weightOf_45 ?_
      refine go_iconst dX5_weightOf_46 ?_
      refine go_iand dX5_weightOf_47 ?_
      refine go_if_eq 57 dX5_weightOf_48 (by decide) (r32 _) (fun c8 => ?_) (fun c8 => ?_)
      · have h := h.1 c8
        obtain ⟨s9, h⟩ := h
        refine go_bipush dX5_weightOf_57 (by decide) ?_
        refine go_iload 6 dX5_weightOf_59 rfl ?_
        refine go_isub dX5_weightOf_61 ?_
        refine go_i2l s9 dX5_weightOf_62 ?_
        refine go_lmul dX5_weightOf_63 ?_
        refine go_lstore [1, 2, 3, 4, 0, 5, 6] (L' := [(0, vR E 42), (1, vI v1), (2, vI v2), (3, vI v3), (4, vJ (v4 * (16 - (D 9 v6)))), (6, vI v6), (7, vI (D 9 v6))]) dX5_weightOf_64 (by decide) rfl ?_
        refine go_iinc 5 [1, 2, 3, 4, 5, 0, 6] (L' := [(0, vR E 42), (1, vI v1), (2, vI v2), (3, vI v3), (4, vJ (v4 * (16 - (D 9 v6)))), (6, vI (v6 + 1)), (7, vI (D 9 v6))]) dX5_weightOf_66 (by decide) rfl rfl ?_
        refine go_goto 6 dX5_weightOf_69 (by decide) ?_
        refine go_sub [0, 1, 2, 3, 4, 5] (L' := [(0, vR E 42), (1, vI v1), (2, vI v2), (3, vI v3), (4, vJ (v4 * (16 - (D 9 v6)))), (6, vI (v6 + 1))]) rfl ?_
        exact h
      · have h := h.2 c8
        refine go_iload 6 dX5_weightOf_51 rfl ?_
        refine go_rngI (c := 9) (i := v6) (hL.1 9 _ rfl) rfl (fun (q11 : -2147483648 ≤ (D 9 v6) ∧ (D 9 v6) < 2147483648) => ?_)
        refine go_i2l q11 dX5_weightOf_53 ?_
        refine go_goto 63 dX5_weightOf_54 (by decide) ?_
        refine go_lmul dX5_weightOf_63 ?_
        refine go_lstore [1, 2, 3, 4, 0, 5, 6] (L' := [(0, vR E 42), (1, vI v1), (2, vI v2), (3, vI v3), (4, vJ (v4 * (D 9 v6))), (6, vI v6), (7, vI (D 9 v6))]) dX5_weightOf_64 (by decide) rfl ?_
        refine go_iinc 5 [1, 2, 3, 4, 5, 0, 6] (L' := [(0, vR E 42), (1, vI v1), (2, vI v2), (3, vI v3), (4, vJ (v4 * (D 9 v6))), (6, vI (v6 + 1)), (7, vI (D 9 v6))]) dX5_weightOf_66 (by decide) rfl rfl ?_
        refine go_goto 6 dX5_weightOf_69 (by decide) ?_
        refine go_sub [0, 1, 2, 3, 4, 5] (L' := [(0, vR E 42), (1, vI v1), (2, vI v2), (3, vI v3), (4, vJ (v4 * (D 9 v6))), (6, vI (v6 + 1))]) rfl ?_
        exact h
    · have h := h.2 c6
      refine go_iload_n 3 dX5_weightOf_24 rfl rfl ?_
      refine go_goto 38 dX5_weightOf_25 (by decide) ?_
      refine go_istore [1, 2, 3, 4, 5, 6, 0] (L' := [(0, vR E 42), (1, vI v1), (2, vI v2), (3, vI v3), (4, vJ v4), (6, vI v6), (7, vI v3)]) dX5_weightOf_38 (by decide) rfl ?_
      refine go_lload 4 dX5_weightOf_40 rfl ?_
      refine go_iload_n 1 dX5_weightOf_42 rfl rfl ?_
      refine go_iload 5 dX5_weightOf_43 rfl ?_
      refine go_ishr dX5_weightOf_45 ?_
      refine go_iconst dX5_weightOf_46 ?_
      refine go_iand dX5_weightOf_47 ?_
      refine go_if_eq 57 dX5_weightOf_48 (by decide) (r32 _) (fun c13 => ?_) (fun c13 => ?_)
      · have h := h.1 c13
        obtain ⟨s14, h⟩ := h
        refine go_bipush dX5_weightOf_57 (by decide) ?_
        refine go_iload 6 dX5_weightOf_59 rfl ?_
        refine go_isub dX5_weightOf_61 ?_
        refine go_i2l s14 dX5_weightOf_62 ?_
        refine go_lmul dX5_weightOf_63 ?_
        refine go_lstore [1, 2, 3, 4, 0, 5, 6] (L' := [(0, vR E 42), (1, vI v1), (2, vI v2), (3, vI v3), (4, vJ (v4 * (16 - v3))), (6, vI v6), (7, vI v3)]) dX5_weightOf_64 (by decide) rfl ?_
        refine go_iinc 5 [1, 2, 3, 4, 5, 0, 6] (L' := [(0, vR E 42), (1, vI v1), (2, vI v2), (3, vI v3), (4, vJ (v4 * (16 - v3))), (6, vI (v6 + 1)), (7, vI v3)]) dX5_weightOf_66 (by decide) rfl rfl ?_
        refine go_goto 6 dX5_weightOf_69 (by decide) ?_
        refine go_sub [0, 1, 2, 3, 4, 5] (L' := [(0, vR E 42), (1, vI v1), (2, vI v2), (3, vI v3), (4, vJ (v4 * (16 - v3))), (6, vI (v6 + 1))]) rfl ?_
        exact h
      · have h := h.2 c13
        obtain ⟨s15, h⟩ := h
        refine go_iload 6 dX5_weightOf_51 rfl ?_
        refine go_i2l s15 dX5_weightOf_53 ?_
        refine go_goto 63 dX5_weightOf_54 (by decide) ?_
        refine go_lmul dX5_weightOf_63 ?_
        refine go_lstore [1, 2, 3, 4, 0, 5, 6] (L' := [(0, vR E 42), (1, vI v1), (2, vI v2), (3, vI v3), (4, vJ (v4 * v3)), (6, vI v6), (7, vI v3)]) dX5_weightOf_64 (by decide) rfl ?_
        refine go_iinc 5 [1, 2, 3, 4, 5, 0, 6] (L' := [(0, vR E 42), (1, vI v1), (2, vI v2), (3, vI v3), (4, vJ (v4 * v3)), (6, vI (v6 + 1)), (7, vI v3)]) dX5_weightOf_66 (by decide) rfl rfl ?_
        refine go_goto 6 dX5_weightOf_69 (by decide) ?_
        refine go_sub [0, 1, 2, 3, 4, 5] (L' := [(0, vR E 42), (1, vI v1), (2, vI v2), (3, vI v3), (4, vJ (v4 * v3)), (6, vI (v6 + 1))]) rfl ?_
        exact h
theorem s_X5_weigh {l : Launch} {E : Ev} {Q : Int → Sh → Dm → Prop} {G : Sh} {D : Dm} (hL : Lay G) {v1 v2 : Int}  (h : KX5_weigh l E Q 11 [(0, vR E 42), (1, vI v1), (2, vI v2), (3, vI (iSl 1 (D 1 1))), (4, vI 0)] G D) : Ct l E MX5_weigh 2 0 0 [vR E 42, vI v1, vI v2] G D Q := by
  refine Ct.of (by decide) (Nat.le_of_ble_eq_true rfl) ?_
  show KX5_weigh l E Q 0 [(0, vR E 42), (1, vI v1), (2, vI v2)] G D
  refine go_aload_n 0 dX5_weigh_0 rfl rfl ?_
  refine go_getR 0 f_X5_42 rfl (hL.1 42 _ rfl) (hL.2.1 42 0 _ rfl (by decide)) dX5_weigh_1 ?_
  refine go_vIp (M := MX8_lots) [] [] mv_X5_69 (hL.1 1 _ rfl) rfl (by decide) ⟨Nat.le_of_ble_eq_true rfl, Nat.le_of_ble_eq_true rfl⟩ ⟨Nat.le_refl _, Nat.le_refl _⟩ rfl rfl (Nat.le_of_ble_eq_true rfl) dX5_weigh_4 (p_X8_lots hL) ?_
  refine go_istore_n [1, 2, 3, 0] (L' := [(0, vR E 42), (1, vI v1), (2, vI v2), (3, vI (iSl 1 (D 1 1)))]) dX5_weigh_7 rfl (by decide) rfl ?_
  refine go_iconst dX5_weigh_8 ?_
  refine go_istore [1, 2, 3, 4, 0] (L' := [(0, vR E 42), (1, vI v1), (2, vI v2), (3, vI (iSl 1 (D 1 1))), (4, vI 0)]) dX5_weigh_9 (by decide) rfl ?_
  exact h
theorem s_X5_weigh_11 {l : Launch} {E : Ev} {Q : Int → Sh → Dm → Prop} {G : Sh} {D : Dm} (hL : Lay G) {v1 v2 v3 v4 : Int}  (h : ((-2147483648 ≤ v4 ∧ v4 < 2147483648) ∧ (-2147483648 ≤ v3 ∧ v3 < 2147483648)) ∧ ((v3 ≤ v4 → Q 0 G D) ∧ (v4 < v3 → C0 l E MX5_weightOf 1 [vR E 42, vI v4, vI v1, vI v2] G D (fun r5 D5 => ((0 ≤ v4 ∧ v4 < 64) ∧ (-9223372036854775808 ≤ r5 ∧ r5 < 9223372036854775808)) ∧ KX5_weigh l E Q 11 [(0, vR E 42), (1, vI v1), (2, vI v2), (3, vI v3), (4, vI (v4 + 1))] G (upd2 D5 43 v4 r5))))) : KX5_weigh l E Q 11 [(0, vR E 42), (1, vI v1), (2, vI v2), (3, vI v3), (4, vI v4)] G D := by
  obtain ⟨s1, h⟩ := h
  refine go_iload 4 dX5_weigh_11 rfl ?_
  refine go_iload_n 3 dX5_weigh_13 rfl rfl ?_
  refine go_icmp_ge 38 dX5_weigh_14 (by decide) s1.1 s1.2 (fun c2 => ?_) (fun c2 => ?_)
  · have h := h.1 c2
    exact go_return (Nat.le_refl _) (Nat.le_refl _) rfl dX5_weigh_38 h
  · have h := h.2 c2
    refine go_aload_n 0 dX5_weigh_17 rfl rfl ?_
    refine go_getR 1 f_X5_9 rfl (hL.1 42 _ rfl) (hL.2.1 42 1 _ rfl (by decide)) dX5_weigh_18 ?_
    refine go_iload 4 dX5_weigh_21 rfl ?_
    refine go_aload_n 0 dX5_weigh_23 rfl rfl ?_
    refine go_iload 4 dX5_weigh_24 rfl ?_
    refine go_iload_n 1 dX5_weigh_26 rfl rfl ?_
    refine go_iload_n 2 dX5_weigh_27 rfl rfl ?_
    refine go_vJ (M := MX5_weightOf) [vI v4, vI v1, vI v2] [vI v4, vR E 43] mv_X5_73 (hL.1 42 _ rfl) rfl (by decide) ⟨Nat.le_of_ble_eq_true rfl, Nat.le_of_ble_eq_true rfl⟩ ⟨Nat.le_refl _, Nat.le_refl _⟩ rfl rfl (Nat.le_of_ble_eq_true rfl) dX5_weigh_28 h (fun r5 D5 h => ?_)
    obtain ⟨s6, h⟩ := h
    refine go_lastore (hL.1 43 _ rfl) (b := 64) rfl (by decide) s6.1 s6.2 dX5_weigh_31 ?_
    refine go_iinc 4 [1, 2, 3, 4, 0] (L' := [(0, vR E 42), (1, vI v1), (2, vI v2), (3, vI v3), (4, vI (v4 + 1))]) dX5_weigh_32 (by decide) rfl rfl ?_
    refine go_goto 11 dX5_weigh_35 (by decide) ?_
    exact h
theorem s_X5_eighthsKept {l : Launch} {E : Ev} {Q : Int → Sh → Dm → Prop} {G : Sh} {D : Dm} (hL : Lay G) {v1 v2 : Int}  (h : KX5_eighthsKept l E Q 5 [(0, vR E 42), (1, vI v1), (2, vI v2), (3, vI 0), (4, vI 0)] G D) : Ct l E MX5_eighthsKept 0 0 0 [vR E 42, vI v1, vI v2] G D Q := by
  refine Ct.of (by decide) (Nat.le_of_ble_eq_true rfl) ?_
  show KX5_eighthsKept l E Q 0 [(0, vR E 42), (1, vI v1), (2, vI v2)] G D
  refine go_iconst dX5_eighthsKept_0 ?_
  refine go_istore_n [1, 2, 3, 0] (L' := [(0, vR E 42), (1, vI v1), (2, vI v2), (3, vI 0)]) dX5_eighthsKept_1 rfl (by decide) rfl ?_
  refine go_iconst dX5_eighthsKept_2 ?_
  refine go_istore [1, 2, 3, 4, 0] (L' := [(0, vR E 42), (1, vI v1), (2, vI v2), (3, vI 0), (4, vI 0)]) dX5_eighthsKept_3 (by decide) rfl ?_
  exact h
theorem s_X5_eighthsKept_5 {l : Launch} {E : Ev} {Q : Int → Sh → Dm → Prop} {G : Sh} {D : Dm} (hL : Lay G) {v1 v2 v3 v4 : Int}  (h : ((-2147483648 ≤ v4 ∧ v4 < 2147483648)) ∧ (((D 1 1) ≤ v4 → ((-2147483648 ≤ (8 - v3) ∧ (8 - v3) < 2147483648)) ∧ Q (max 0 (8 - v3)) G D) ∧ (v4 < (D 1 1) → (((iA (iSr v2 v4) 1) = 0 → KX5_eighthsKept l E Q 5 [(0, vR E 42), (1, vI v1), (2, vI v2), (3, vI v3), (4, vI (v4 + 1))] G D) ∧ ((iA (iSr v2 v4) 1) ≠ 0 → ((0 ≤ v4 ∧ v4 < 6)) ∧ (((iA (iSr (D 10 v4) v1) 1) = 0 → KX5_eighthsKept l E Q 5 [(0, vR E 42), (1, vI v1), (2, vI v2), (3, vI v3), (4, vI (v4 + 1))] G D) ∧ ((iA (iSr (D 10 v4) v1) 1) ≠ 0 → KX5_eighthsKept l E Q 5 [(0, vR E 42), (1, vI v1), (2, vI v2), (3, vI (v3 + (D 8 v4))), (4, vI (v4 + 1))] G D))))))) : KX5_eighthsKept l E Q 5 [(0, vR E 42), (1, vI v1), (2, vI v2), (3, vI v3), (4, vI v4)] G D := by
  obtain ⟨s1, h⟩ := h
  refine go_iload 4 dX5_eighthsKept_5 rfl ?_
  refine go_aload_n 0 dX5_eighthsKept_7 rfl rfl ?_
  refine go_getR 0 f_X5_42 rfl (hL.1 42 _ rfl) (hL.2.1 42 0 _ rfl (by decide)) dX5_eighthsKept_8 ?_
  refine go_getI 1 (i := 1) f_X5_77 rfl (hL.1 1 _ rfl) dX5_eighthsKept_11 ?_
  refine go_rngI (c := 1) (i := 1) (hL.1 1 _ rfl) rfl (fun (q2 : -2147483648 ≤ (D 1 1) ∧ (D 1 1) < 2147483648) => ?_)
  refine go_icmp_ge 62 dX5_eighthsKept_14 (by decide) s1 q2 (fun c3 => ?_) (fun c3 => ?_)
  · have h := h.1 c3
    obtain ⟨s4, h⟩ := h
    refine go_iconst dX5_eighthsKept_62 ?_
    refine go_bipush dX5_eighthsKept_63 (by decide) ?_
    refine go_iload_n 3 dX5_eighthsKept_65 rfl rfl ?_
    refine go_isub dX5_eighthsKept_66 ?_
    refine go_mmax ma_X5_89 (by decide) s4 ⟨by decide, Nat.le_of_ble_eq_true rfl⟩ ⟨Nat.le_refl _, Nat.le_refl _⟩ dX5_eighthsKept_67 ?_
    exact go_ireturn (Nat.le_refl _) (Nat.le_refl _) rfl dX5_eighthsKept_70 h
  · have h := h.2 c3
    refine go_iload_n 2 dX5_eighthsKept_17 rfl rfl ?_
    refine go_iload 4 dX5_eighthsKept_18 rfl ?_
    refine go_ishr dX5_eighthsKept_20 ?_
    refine go_iconst dX5_eighthsKept_21 ?_
    refine go_iand dX5_eighthsKept_22 ?_
    refine go_if_eq 56 dX5_eighthsKept_23 (by decide) (r32 _) (fun c6 => ?_) (fun c6 => ?_)
    · have h := h.1 c6
      refine go_iinc 4 [1, 2, 3, 4, 0] (L' := [(0, vR E 42), (1, vI v1), (2, vI v2), (3, vI v3), (4, vI (v4 + 1))]) dX5_eighthsKept_56 (by decide) rfl rfl ?_
      refine go_goto 5 dX5_eighthsKept_59 (by decide) ?_
      exact h
    · have h := h.2 c6
      obtain ⟨s8, h⟩ := h
      refine go_aload_n 0 dX5_eighthsKept_26 rfl rfl ?_
      refine go_getR 0 f_X5_42 rfl (hL.1 42 _ rfl) (hL.2.1 42 0 _ rfl (by decide)) dX5_eighthsKept_27 ?_
      refine go_getR 13 f_X5_83 rfl (hL.1 1 _ rfl) (hL.2.1 1 13 _ rfl (by decide)) dX5_eighthsKept_30 ?_
      refine go_iload 4 dX5_eighthsKept_33 rfl ?_
      refine go_iaload (hL.1 10 _ rfl) (b := 6) rfl (by decide) s8 dX5_eighthsKept_35 ?_
      refine go_iload_n 1 dX5_eighthsKept_36 rfl rfl ?_
      refine go_ishr dX5_eighthsKept_37 ?_
      refine go_iconst dX5_eighthsKept_38 ?_
      refine go_iand dX5_eighthsKept_39 ?_
      refine go_if_eq 56 dX5_eighthsKept_40 (by decide) (r32 _) (fun c9 => ?_) (fun c9 => ?_)
      · have h := h.1 c9
        refine go_iinc 4 [1, 2, 3, 4, 0] (L' := [(0, vR E 42), (1, vI v1), (2, vI v2), (3, vI v3), (4, vI (v4 + 1))]) dX5_eighthsKept_56 (by decide) rfl rfl ?_
        refine go_goto 5 dX5_eighthsKept_59 (by decide) ?_
        exact h
      · have h := h.2 c9
        refine go_iload_n 3 dX5_eighthsKept_43 rfl rfl ?_
        refine go_aload_n 0 dX5_eighthsKept_44 rfl rfl ?_
        refine go_getR 0 f_X5_42 rfl (hL.1 42 _ rfl) (hL.2.1 42 0 _ rfl (by decide)) dX5_eighthsKept_45 ?_
        refine go_getR 11 f_X5_86 rfl (hL.1 1 _ rfl) (hL.2.1 1 11 _ rfl (by decide)) dX5_eighthsKept_48 ?_
        refine go_iload 4 dX5_eighthsKept_51 rfl ?_
        refine go_iaload (hL.1 8 _ rfl) (b := 6) rfl (by decide) s8 dX5_eighthsKept_53 ?_
        refine go_iadd dX5_eighthsKept_54 ?_
        refine go_istore_n [1, 2, 3, 0, 4] (L' := [(0, vR E 42), (1, vI v1), (2, vI v2), (3, vI (v3 + (D 8 v4))), (4, vI v4)]) dX5_eighthsKept_55 rfl (by decide) rfl ?_
        refine go_iinc 4 [1, 2, 3, 4, 0] (L' := [(0, vR E 42), (1, vI v1), (2, vI v2), (3, vI (v3 + (D 8 v4))), (4, vI (v4 + 1))]) dX5_eighthsKept_56 (by decide) rfl rfl ?_
        refine go_goto 5 dX5_eighthsKept_59 (by decide) ?_
        exact h
theorem s_X5_fillKept {l : Launch} {E : Ev} {Q : Int → Sh → Dm → Prop} {G : Sh} {D : Dm} (hL : Lay G)  (h : KX5_fillKept l E Q 2 [(0, vR E 42), (1, vI 0)] G D) : Ct l E MX5_fillKept 2 0 0 [vR E 42] G D Q := by
  refine Ct.of (by decide) (Nat.le_of_ble_eq_true rfl) ?_
  show KX5_fillKept l E Q 0 [(0, vR E 42)] G D
  refine go_iconst dX5_fillKept_0 ?_
  refine go_istore_n [1, 0] (L' := [(0, vR E 42), (1, vI 0)]) dX5_fillKept_1 rfl (by decide) rfl ?_
  exact h
theorem s_X5_fillKept_2 {l : Launch} {E : Ev} {Q : Int → Sh → Dm → Prop} {G : Sh} {D : Dm} (hL : Lay G) {v1 : Int}  (h : ((-2147483648 ≤ v1 ∧ v1 < 2147483648)) ∧ (((D 1 0) ≤ v1 → Q 0 G D) ∧ (v1 < (D 1 0) → KX5_fillKept l E Q 15 [(0, vR E 42), (1, vI v1), (2, vI 0)] G D))) : KX5_fillKept l E Q 2 [(0, vR E 42), (1, vI v1)] G D := by
  obtain ⟨s1, h⟩ := h
  refine go_iload_n 1 dX5_fillKept_2 rfl rfl ?_
  refine go_aload_n 0 dX5_fillKept_3 rfl rfl ?_
  refine go_getR 0 f_X5_42 rfl (hL.1 42 _ rfl) (hL.2.1 42 0 _ rfl (by decide)) dX5_fillKept_4 ?_
  refine go_getI 0 (i := 0) f_X5_95 rfl (hL.1 1 _ rfl) dX5_fillKept_7 ?_
  refine go_rngI (c := 1) (i := 0) (hL.1 1 _ rfl) rfl (fun (q2 : -2147483648 ≤ (D 1 0) ∧ (D 1 0) < 2147483648) => ?_)
  refine go_icmp_ge 55 dX5_fillKept_10 (by decide) s1 q2 (fun c3 => ?_) (fun c3 => ?_)
  · have h := h.1 c3
    exact go_return (Nat.le_refl _) (Nat.le_refl _) rfl dX5_fillKept_55 h
  · have h := h.2 c3
    refine go_iconst dX5_fillKept_13 ?_
    refine go_istore_n [1, 2, 0] (L' := [(0, vR E 42), (1, vI v1), (2, vI 0)]) dX5_fillKept_14 rfl (by decide) rfl ?_
    exact h
theorem s_X5_fillKept_15 {l : Launch} {E : Ev} {Q : Int → Sh → Dm → Prop} {G : Sh} {D : Dm} (hL : Lay G) {v1 v2 : Int}  (h : ((-2147483648 ≤ v2 ∧ v2 < 2147483648)) ∧ (((iSl 1 (D 1 1)) ≤ v2 → KX5_fillKept l E Q 2 [(0, vR E 42), (1, vI (v1 + 1))] G D) ∧ (v2 < (iSl 1 (D 1 1)) → C0 l E MX5_eighthsKept 0 [vR E 42, vI v1, vI v2] G D (fun r6 D6 => ((0 ≤ ((v1 * 64) + v2) ∧ ((v1 * 64) + v2) < 640) ∧ (-2147483648 ≤ r6 ∧ r6 < 2147483648)) ∧ KX5_fillKept l E Q 15 [(0, vR E 42), (1, vI v1), (2, vI (v2 + 1))] G (upd2 D6 45 ((v1 * 64) + v2) r6))))) : KX5_fillKept l E Q 15 [(0, vR E 42), (1, vI v1), (2, vI v2)] G D := by
  obtain ⟨s1, h⟩ := h
  refine go_iload_n 2 dX5_fillKept_15 rfl rfl ?_
  refine go_aload_n 0 dX5_fillKept_16 rfl rfl ?_
  refine go_getR 0 f_X5_42 rfl (hL.1 42 _ rfl) (hL.2.1 42 0 _ rfl (by decide)) dX5_fillKept_17 ?_
  refine go_vIp (M := MX8_lots) [] [vI v2] mv_X5_69 (hL.1 1 _ rfl) rfl (by decide) ⟨Nat.le_of_ble_eq_true rfl, Nat.le_of_ble_eq_true rfl⟩ ⟨Nat.le_refl _, Nat.le_refl _⟩ rfl rfl (Nat.le_of_ble_eq_true rfl) dX5_fillKept_20 (p_X8_lots hL) ?_
  refine go_icmp_ge 49 dX5_fillKept_23 (by decide) s1 (r32 _) (fun c3 => ?_) (fun c3 => ?_)
  · have h := h.1 c3
    refine go_iinc 1 [1, 0, 2] (L' := [(0, vR E 42), (1, vI (v1 + 1)), (2, vI v2)]) dX5_fillKept_49 (by decide) rfl rfl ?_
    refine go_goto 2 dX5_fillKept_52 (by decide) ?_
    refine go_sub [0, 1] (L' := [(0, vR E 42), (1, vI (v1 + 1))]) rfl ?_
    exact h
  · have h := h.2 c3
    refine go_aload_n 0 dX5_fillKept_26 rfl rfl ?_
    refine go_getR 6 f_X5_30 rfl (hL.1 42 _ rfl) (hL.2.1 42 6 _ rfl (by decide)) dX5_fillKept_27 ?_
    refine go_iload_n 1 dX5_fillKept_30 rfl rfl ?_
    refine go_bipush dX5_fillKept_31 (by decide) ?_
    refine go_imul dX5_fillKept_33 ?_
    refine go_iload_n 2 dX5_fillKept_34 rfl rfl ?_
    refine go_iadd dX5_fillKept_35 ?_
    refine go_aload_n 0 dX5_fillKept_36 rfl rfl ?_
    refine go_iload_n 1 dX5_fillKept_37 rfl rfl ?_
    refine go_iload_n 2 dX5_fillKept_38 rfl rfl ?_
    refine go_vI (M := MX5_eighthsKept) [vI v1, vI v2] [vI ((v1 * 64) + v2), vR E 45] mv_X5_98 (hL.1 42 _ rfl) rfl (by decide) ⟨Nat.le_of_ble_eq_true rfl, Nat.le_of_ble_eq_true rfl⟩ ⟨Nat.le_refl _, Nat.le_refl _⟩ rfl rfl (Nat.le_of_ble_eq_true rfl) dX5_fillKept_39 h (fun r6 D6 h => ?_)
    obtain ⟨s7, h⟩ := h
    refine go_iastore (hL.1 45 _ rfl) (b := 640) rfl (by decide) s7.1 s7.2 dX5_fillKept_42 ?_
    refine go_iinc 2 [1, 2, 0] (L' := [(0, vR E 42), (1, vI v1), (2, vI (v2 + 1))]) dX5_fillKept_43 (by decide) rfl rfl ?_
    refine go_goto 15 dX5_fillKept_46 (by decide) ?_
    exact h
theorem s_X5_fillApart {l : Launch} {E : Ev} {Q : Int → Sh → Dm → Prop} {G : Sh} {D : Dm} (hL : Lay G)  (h : KX5_fillApart l E Q 2 [(0, vR E 42), (1, vI 0)] G D) : Ct l E MX5_fillApart 2 0 0 [vR E 42] G D Q := by
  refine Ct.of (by decide) (Nat.le_of_ble_eq_true rfl) ?_
  show KX5_fillApart l E Q 0 [(0, vR E 42)] G D
  refine go_iconst dX5_fillApart_0 ?_
  refine go_istore_n [1, 0] (L' := [(0, vR E 42), (1, vI 0)]) dX5_fillApart_1 rfl (by decide) rfl ?_
  exact h
theorem s_X5_fillApart_2 {l : Launch} {E : Ev} {Q : Int → Sh → Dm → Prop} {G : Sh} {D : Dm} (hL : Lay G) {v1 : Int}  (h : ((-2147483648 ≤ v1 ∧ v1 < 2147483648)) ∧ (((D 1 0) ≤ v1 → Q 0 G D) ∧ (v1 < (D 1 0) → KX5_fillApart l E Q 15 [(0, vR E 42), (1, vI v1), (2, vI 0)] G D))) : KX5_fillApart l E Q 2 [(0, vR E 42), (1, vI v1)] G D := by
  obtain ⟨s1, h⟩ := h
  refine go_iload_n 1 dX5_fillApart_2 rfl rfl ?_
  refine go_aload_n 0 dX5_fillApart_3 rfl rfl ?_
  refine go_getR 0 f_X5_42 rfl (hL.1 42 _ rfl) (hL.2.1 42 0 _ rfl (by decide)) dX5_fillApart_4 ?_
  refine go_getI 0 (i := 0) f_X5_95 rfl (hL.1 1 _ rfl) dX5_fillApart_7 ?_
  refine go_rngI (c := 1) (i := 0) (hL.1 1 _ rfl) rfl (fun (q2 : -2147483648 ≤ (D 1 0) ∧ (D 1 0) < 2147483648) => ?_)
  refine go_icmp_ge 94 dX5_fillApart_10 (by decide) s1 q2 (fun c3 => ?_) (fun c3 => ?_)
  · have h := h.1 c3
    exact go_return (Nat.le_refl _) (Nat.le_refl _) rfl dX5_fillApart_94 h
  · have h := h.2 c3
    refine go_iconst dX5_fillApart_13 ?_
    refine go_istore_n [1, 2, 0] (L' := [(0, vR E 42), (1, vI v1), (2, vI 0)]) dX5_fillApart_14 rfl (by decide) rfl ?_
    exact h
theorem s_X5_fillApart_15 {l : Launch} {E : Ev} {Q : Int → Sh → Dm → Prop} {G : Sh} {D : Dm} (hL : Lay G) {v1 v2 : Int}  (h : ((-2147483648 ≤ v2 ∧ v2 < 2147483648)) ∧ (((D 1 0) ≤ v2 → KX5_fillApart l E Q 2 [(0, vR E 42), (1, vI (v1 + 1))] G D) ∧ (v2 < (D 1 0) → ((0 ≤ v1 ∧ v1 < 10) ∧ (0 ≤ v2 ∧ v2 < 10) ∧ (-2147483648 < ((D 2 v1) - (D 2 v2)) ∧ ((D 2 v1) - (D 2 v2)) < 2147483648) ∧ (-2147483648 < ((D 3 v1) - (D 3 v2)) ∧ ((D 3 v1) - (D 3 v2)) < 2147483648) ∧ (0 ≤ ((v1 * 10) + v2) ∧ ((v1 * 10) + v2) < 100) ∧ (-2147483648 ≤ (((Int.natAbs ((D 2 v1) - (D 2 v2)) : Nat) : Int) + ((Int.natAbs ((D 3 v1) - (D 3 v2)) : Nat) : Int)) ∧ (((Int.natAbs ((D 2 v1) - (D 2 v2)) : Nat) : Int) + ((Int.natAbs ((D 3 v1) - (D 3 v2)) : Nat) : Int)) < 2147483648)) ∧ KX5_fillApart l E Q 15 [(0, vR E 42), (1, vI v1), (2, vI (v2 + 1))] G (upd2 D 46 ((v1 * 10) + v2) (((Int.natAbs ((D 2 v1) - (D 2 v2)) : Nat) : Int) + ((Int.natAbs ((D 3 v1) - (D 3 v2)) : Nat) : Int)))))) : KX5_fillApart l E Q 15 [(0, vR E 42), (1, vI v1), (2, vI v2)] G D := by
  obtain ⟨s1, h⟩ := h
  refine go_iload_n 2 dX5_fillApart_15 rfl rfl ?_
  refine go_aload_n 0 dX5_fillApart_16 rfl rfl ?_
  refine go_getR 0 f_X5_42 rfl (hL.1 42 _ rfl) (hL.2.1 42 0 _ rfl (by decide)) dX5_fillApart_17 ?_
  refine go_getI 0 (i := 0) f_X5_95 rfl (hL.1 1 _ rfl) dX5_fillApart_20 ?_
  refine go_rngI (c := 1) (i := 0) (hL.1 1 _ rfl) rfl (fun (q2 : -2147483648 ≤ (D 1 0) ∧ (D 1 0) < 2147483648) => ?_)
  refine go_icmp_ge 88 dX5_fillApart_23 (by decide) s1 q2 (fun c3 => ?_) (fun c3 => ?_)
  · have h := h.1 c3
    refine go_iinc 1 [1, 0, 2] (L' := [(0, vR E 42), (1, vI (v1 + 1)), (2, vI v2)]) dX5_fillApart_88 (by decide) rfl rfl ?_
    refine go_goto 2 dX5_fillApart_91 (by decide) ?_
    refine go_sub [0, 1] (L' := [(0, vR E 42), (1, vI (v1 + 1))]) rfl ?_
    exact h
  · have h := h.2 c3
    obtain ⟨s5, h⟩ := h
    refine go_aload_n 0 dX5_fillApart_26 rfl rfl ?_
    refine go_getR 7 f_X5_33 rfl (hL.1 42 _ rfl) (hL.2.1 42 7 _ rfl (by decide)) dX5_fillApart_27 ?_
    refine go_iload_n 1 dX5_fillApart_30 rfl rfl ?_
    refine go_bipush dX5_fillApart_31 (by decide) ?_
    refine go_imul dX5_fillApart_33 ?_
    refine go_iload_n 2 dX5_fillApart_34 rfl rfl ?_
    refine go_iadd dX5_fillApart_35 ?_
    refine go_aload_n 0 dX5_fillApart_36 rfl rfl ?_
    refine go_getR 0 f_X5_42 rfl (hL.1 42 _ rfl) (hL.2.1 42 0 _ rfl (by decide)) dX5_fillApart_37 ?_
    refine go_getR 5 f_X5_101 rfl (hL.1 1 _ rfl) (hL.2.1 1 5 _ rfl (by decide)) dX5_fillApart_40 ?_
    refine go_iload_n 1 dX5_fillApart_43 rfl rfl ?_
    refine go_iaload (hL.1 2 _ rfl) (b := 10) rfl (by decide) s5.1 dX5_fillApart_44 ?_
    refine go_aload_n 0 dX5_fillApart_45 rfl rfl ?_
    refine go_getR 0 f_X5_42 rfl (hL.1 42 _ rfl) (hL.2.1 42 0 _ rfl (by decide)) dX5_fillApart_46 ?_
    refine go_getR 5 f_X5_101 rfl (hL.1 1 _ rfl) (hL.2.1 1 5 _ rfl (by decide)) dX5_fillApart_49 ?_
    refine go_iload_n 2 dX5_fillApart_52 rfl rfl ?_
    refine go_iaload (hL.1 2 _ rfl) (b := 10) rfl (by decide) s5.2.1 dX5_fillApart_53 ?_
    refine go_isub dX5_fillApart_54 ?_
    refine go_mabs ma_X5_104 s5.2.2.1 ⟨by decide, Nat.le_of_ble_eq_true rfl⟩ ⟨Nat.le_refl _, Nat.le_refl _⟩ dX5_fillApart_55 ?_
    refine go_aload_n 0 dX5_fillApart_58 rfl rfl ?_
    refine go_getR 0 f_X5_42 rfl (hL.1 42 _ rfl) (hL.2.1 42 0 _ rfl (by decide)) dX5_fillApart_59 ?_
    refine go_getR 6 f_X5_108 rfl (hL.1 1 _ rfl) (hL.2.1 1 6 _ rfl (by decide)) dX5_fillApart_62 ?_
    refine go_iload_n 1 dX5_fillApart_65 rfl rfl ?_
    refine go_iaload (hL.1 3 _ rfl) (b := 10) rfl (by decide) s5.1 dX5_fillApart_66 ?_
    refine go_aload_n 0 dX5_fillApart_67 rfl rfl ?_
    refine go_getR 0 f_X5_42 rfl (hL.1 42 _ rfl) (hL.2.1 42 0 _ rfl (by decide)) dX5_fillApart_68 ?_
    refine go_getR 6 f_X5_108 rfl (hL.1 1 _ rfl) (hL.2.1 1 6 _ rfl (by decide)) dX5_fillApart_71 ?_
    refine go_iload_n 2 dX5_fillApart_74 rfl rfl ?_
    refine go_iaload (hL.1 3 _ rfl) (b := 10) rfl (by decide) s5.2.1 dX5_fillApart_75 ?_
    refine go_isub dX5_fillApart_76 ?_
    refine go_mabs ma_X5_104 s5.2.2.2.1 ⟨by decide, Nat.le_of_ble_eq_true rfl⟩ ⟨Nat.le_refl _, Nat.le_refl _⟩ dX5_fillApart_77 ?_
    refine go_iadd dX5_fillApart_80 ?_
    refine go_iastore (hL.1 46 _ rfl) (b := 100) rfl (by decide) s5.2.2.2.2.1 s5.2.2.2.2.2 dX5_fillApart_81 ?_
    refine go_iinc 2 [1, 2, 0] (L' := [(0, vR E 42), (1, vI v1), (2, vI (v2 + 1))]) dX5_fillApart_82 (by decide) rfl rfl ?_
    refine go_goto 15 dX5_fillApart_85 (by decide) ?_
    exact h
theorem s_X5_stepsFromHome {l : Launch} {E : Ev} {Q : Int → Sh → Dm → Prop} {G : Sh} {D : Dm} (hL : Lay G) {v1 v2 : Int}  (h : ((0 ≤ v1 ∧ v1 < 4) ∧ (0 ≤ v2 ∧ v2 < 10) ∧ (-2147483648 < ((D 11 v1) - (D 2 v2)) ∧ ((D 11 v1) - (D 2 v2)) < 2147483648) ∧ (-2147483648 < ((D 12 v1) - (D 3 v2)) ∧ ((D 12 v1) - (D 3 v2)) < 2147483648)) ∧ Q (((Int.natAbs ((D 11 v1) - (D 2 v2)) : Nat) : Int) + ((Int.natAbs ((D 12 v1) - (D 3 v2)) : Nat) : Int)) G D) : Ct l E MX5_stepsFromHome 0 0 0 [vR E 42, vI v1, vI v2] G D Q := by
  refine Ct.of (by decide) (Nat.le_of_ble_eq_true rfl) ?_
  show KX5_stepsFromHome l E Q 0 [(0, vR E 42), (1, vI v1), (2, vI v2)] G D
  obtain ⟨s1, h⟩ := h
  refine go_aload_n 0 dX5_stepsFromHome_0 rfl rfl ?_
  refine go_getR 0 f_X5_42 rfl (hL.1 42 _ rfl) (hL.2.1 42 0 _ rfl (by decide)) dX5_stepsFromHome_1 ?_
  refine go_getR 14 f_X5_124 rfl (hL.1 1 _ rfl) (hL.2.1 1 14 _ rfl (by decide)) dX5_stepsFromHome_4 ?_
  refine go_iload_n 1 dX5_stepsFromHome_7 rfl rfl ?_
  refine go_iaload (hL.1 11 _ rfl) (b := 4) rfl (by decide) s1.1 dX5_stepsFromHome_8 ?_
  refine go_aload_n 0 dX5_stepsFromHome_9 rfl rfl ?_
  refine go_getR 0 f_X5_42 rfl (hL.1 42 _ rfl) (hL.2.1 42 0 _ rfl (by decide)) dX5_stepsFromHome_10 ?_
  refine go_getR 5 f_X5_101 rfl (hL.1 1 _ rfl) (hL.2.1 1 5 _ rfl (by decide)) dX5_stepsFromHome_13 ?_
  refine go_iload_n 2 dX5_stepsFromHome_16 rfl rfl ?_
  refine go_iaload (hL.1 2 _ rfl) (b := 10) rfl (by decide) s1.2.1 dX5_stepsFromHome_17 ?_
  refine go_isub dX5_stepsFromHome_18 ?_
  refine go_mabs ma_X5_104 s1.2.2.1 ⟨by decide, Nat.le_of_ble_eq_true rfl⟩ ⟨Nat.le_refl _, Nat.le_refl _⟩ dX5_stepsFromHome_19 ?_
  refine go_aload_n 0 dX5_stepsFromHome_22 rfl rfl ?_
  refine go_getR 0 f_X5_42 rfl (hL.1 42 _ rfl) (hL.2.1 42 0 _ rfl (by decide)) dX5_stepsFromHome_23 ?_
  refine go_getR 15 f_X5_127 rfl (hL.1 1 _ rfl) (hL.2.1 1 15 _ rfl (by decide)) dX5_stepsFromHome_26 ?_
  refine go_iload_n 1 dX5_stepsFromHome_29 rfl rfl ?_
  refine go_iaload (hL.1 12 _ rfl) (b := 4) rfl (by decide) s1.1 dX5_stepsFromHome_30 ?_
  refine go_aload_n 0 dX5_stepsFromHome_31 rfl rfl ?_
  refine go_getR 0 f_X5_42 rfl (hL.1 42 _ rfl) (hL.2.1 42 0 _ rfl (by decide)) dX5_stepsFromHome_32 ?_
  refine go_getR 6 f_X5_108 rfl (hL.1 1 _ rfl) (hL.2.1 1 6 _ rfl (by decide)) dX5_stepsFromHome_35 ?_
  refine go_iload_n 2 dX5_stepsFromHome_38 rfl rfl ?_
  refine go_iaload (hL.1 3 _ rfl) (b := 10) rfl (by decide) s1.2.1 dX5_stepsFromHome_39 ?_
  refine go_isub dX5_stepsFromHome_40 ?_
  refine go_mabs ma_X5_104 s1.2.2.2 ⟨by decide, Nat.le_of_ble_eq_true rfl⟩ ⟨Nat.le_refl _, Nat.le_refl _⟩ dX5_stepsFromHome_41 ?_
  refine go_iadd dX5_stepsFromHome_44 ?_
  exact go_ireturn (Nat.le_refl _) (Nat.le_refl _) rfl dX5_stepsFromHome_45 h
theorem p_X5_stepsFromHome {l : Launch} {E : Ev} {G : Sh} {D : Dm} (hL : Lay G) {v1 v2 : Int}  (q0 : 0 ≤ v1 ∧ v1 < 4) (q1 : 0 ≤ v2 ∧ v2 < 10) (q2 : -2147483648 < ((D 11 v1) - (D 2 v2)) ∧ ((D 11 v1) - (D 2 v2)) < 2147483648) (q3 : -2147483648 < ((D 12 v1) - (D 3 v2)) ∧ ((D 12 v1) - (D 3 v2)) < 2147483648) : C0 l E MX5_stepsFromHome 0 [vR E 42, vI v1, vI v2] G D (fun r D' => r = (((Int.natAbs ((D 11 v1) - (D 2 v2)) : Nat) : Int) + ((Int.natAbs ((D 12 v1) - (D 3 v2)) : Nat) : Int)) ∧ D' = D) := s_X5_stepsFromHome hL ⟨⟨q0, q1, q2, q3⟩, ⟨rfl, rfl, rfl⟩⟩
theorem s_X5_shortestWay {l : Launch} {E : Ev} {Q : Int → Sh → Dm → Prop} {G : Sh} {D : Dm} (hL : Lay G) {v1 v2 : Int}  (h : KX5_shortestWay l E Q 6 [(0, vR E 42), (1, vI v1), (2, vI v2), (3, vI 2147483647), (4, vI 0)] G D) : Ct l E MX5_shortestWay 0 0 0 [vR E 42, vI v1, vI v2] G D Q := by
  refine Ct.of (by decide) (Nat.le_of_ble_eq_true rfl) ?_
  show KX5_shortestWay l E Q 0 [(0, vR E 42), (1, vI v1), (2, vI v2)] G D
  refine go_ldc (x := 2147483647) k_X5_114 dX5_shortestWay_0 ?_
  refine go_istore_n [1, 2, 3, 0] (L' := [(0, vR E 42), (1, vI v1), (2, vI v2), (3, vI 2147483647)]) dX5_shortestWay_2 rfl (by decide) rfl ?_
  refine go_iconst dX5_shortestWay_3 ?_
  refine go_istore [1, 2, 3, 4, 0] (L' := [(0, vR E 42), (1, vI v1), (2, vI v2), (3, vI 2147483647), (4, vI 0)]) dX5_shortestWay_4 (by decide) rfl ?_
  exact h
theorem s_X5_shortestWay_6 {l : Launch} {E : Ev} {Q : Int → Sh → Dm → Prop} {G : Sh} {D : Dm} (hL : Lay G) {v1 v2 v3 v4 : Int}  (h : ((-2147483648 ≤ v4 ∧ v4 < 2147483648)) ∧ (((D 1 0) ≤ v4 → Q v3 G D) ∧ (v4 < (D 1 0) → (((iA (iSr v1 v4) 1) = 0 → KX5_shortestWay l E Q 6 [(0, vR E 42), (1, vI v1), (2, vI v2), (3, vI v3), (4, vI (v4 + 1))] G D) ∧ ((iA (iSr v1 v4) 1) ≠ 0 → ((0 ≤ ((v1 * 10) + v4) ∧ ((v1 * 10) + v4) < ((wyl G : Nat) : Int)) ∧ (0 ≤ ((v4 * 10) + v2) ∧ ((v4 * 10) + v2) < 100) ∧ (-2147483648 ≤ ((D (wyc G) ((v1 * 10) + v4)) + (D 46 ((v4 * 10) + v2))) ∧ ((D (wyc G) ((v1 * 10) + v4)) + (D 46 ((v4 * 10) + v2))) < 2147483648) ∧ (-2147483648 ≤ v3 ∧ v3 < 2147483648)) ∧ ((v3 ≤ ((D (wyc G) ((v1 * 10) + v4)) + (D 46 ((v4 * 10) + v2))) → KX5_shortestWay l E Q 6 [(0, vR E 42), (1, vI v1), (2, vI v2), (3, vI v3), (4, vI (v4 + 1))] G D) ∧ (((D (wyc G) ((v1 * 10) + v4)) + (D 46 ((v4 * 10) + v2))) < v3 → KX5_shortestWay l E Q 6 [(0, vR E 42), (1, vI v1), (2, vI v2), (3, vI ((D (wyc G) ((v1 * 10) + v4)) + (D 46 ((v4 * 10) + v2)))), (4, vI (v4 + 1))] G D))))))) : KX5_shortestWay l E Q 6 [(0, vR E 42), (1, vI v1), (2, vI v2), (3, vI v3), (4, vI v4)] G D := by
  obtain ⟨s1, h⟩ := h
  refine go_iload 4 dX5_shortestWay_6 rfl ?_
  refine go_aload_n 0 dX5_shortestWay_8 rfl rfl ?_
  refine go_getR 0 f_X5_42 rfl (hL.1 42 _ rfl) (hL.2.1 42 0 _ rfl (by decide)) dX5_shortestWay_9 ?_
  refine go_getI 0 (i := 0) f_X5_95 rfl (hL.1 1 _ rfl) dX5_shortestWay_12 ?_
  refine go_rngI (c := 1) (i := 0) (hL.1 1 _ rfl) rfl (fun (q2 : -2147483648 ≤ (D 1 0) ∧ (D 1 0) < 2147483648) => ?_)
  refine go_icmp_ge 73 dX5_shortestWay_15 (by decide) s1 q2 (fun c3 => ?_) (fun c3 => ?_)
  · have h := h.1 c3
    refine go_iload_n 3 dX5_shortestWay_73 rfl rfl ?_
    exact go_ireturn (Nat.le_refl _) (Nat.le_refl _) rfl dX5_shortestWay_74 h
  · have h := h.2 c3
    refine go_iload_n 1 dX5_shortestWay_18 rfl rfl ?_
    refine go_iload 4 dX5_shortestWay_19 rfl ?_
    refine go_ishr dX5_shortestWay_21 ?_
    refine go_iconst dX5_shortestWay_22 ?_
    refine go_iand dX5_shortestWay_23 ?_
    refine go_if_eq 67 dX5_shortestWay_24 (by decide) (r32 _) (fun c6 => ?_) (fun c6 => ?_)
    · have h := h.1 c6
      refine go_iinc 4 [1, 2, 3, 4, 0] (L' := [(0, vR E 42), (1, vI v1), (2, vI v2), (3, vI v3), (4, vI (v4 + 1))]) dX5_shortestWay_67 (by decide) rfl rfl ?_
      refine go_goto 6 dX5_shortestWay_70 (by decide) ?_
      exact h
    · have h := h.2 c6
      obtain ⟨s8, h⟩ := h
      refine go_aload_n 0 dX5_shortestWay_27 rfl rfl ?_
      refine go_getR 9 f_X5_39 rfl (hL.1 42 _ rfl) (lay_wy hL) dX5_shortestWay_28 ?_
      refine go_iload_n 1 dX5_shortestWay_31 rfl rfl ?_
      refine go_bipush dX5_shortestWay_32 (by decide) ?_
      refine go_imul dX5_shortestWay_34 ?_
      refine go_iload 4 dX5_shortestWay_35 rfl ?_
      refine go_iadd dX5_shortestWay_37 ?_
      refine go_iaload (lay_wyT hL) (b := ((wyl G : Nat) : Int)) rfl (lay_wyN hL) s8.1 dX5_shortestWay_38 ?_
      refine go_aload_n 0 dX5_shortestWay_39 rfl rfl ?_
      refine go_getR 7 f_X5_33 rfl (hL.1 42 _ rfl) (hL.2.1 42 7 _ rfl (by decide)) dX5_shortestWay_40 ?_
      refine go_iload 4 dX5_shortestWay_43 rfl ?_
      refine go_bipush dX5_shortestWay_45 (by decide) ?_
      refine go_imul dX5_shortestWay_47 ?_
      refine go_iload_n 2 dX5_shortestWay_48 rfl rfl ?_
      refine go_iadd dX5_shortestWay_49 ?_
      refine go_iaload (hL.1 46 _ rfl) (b := 100) rfl (by decide) s8.2.1 dX5_shortestWay_50 ?_
      refine go_iadd dX5_shortestWay_51 ?_
      refine go_istore [1, 2, 3, 4, 5, 0] (L' := [(0, vR E 42), (1, vI v1), (2, vI v2), (3, vI v3), (4, vI v4), (5, vI ((D (wyc G) ((v1 * 10) + v4)) + (D 46 ((v4 * 10) + v2))))]) dX5_shortestWay_52 (by decide) rfl ?_
      refine go_iload 5 dX5_shortestWay_54 rfl ?_
      refine go_iload_n 3 dX5_shortestWay_56 rfl rfl ?_
      refine go_icmp_ge 65 dX5_shortestWay_57 (by decide) s8.2.2.1 s8.2.2.2 (fun c9 => ?_) (fun c9 => ?_)
      · have h := h.1 c9
        refine go_iload_n 3 dX5_shortestWay_65 rfl rfl ?_
        refine go_istore_n [1, 2, 3, 0, 4, 5] (L' := [(0, vR E 42), (1, vI v1), (2, vI v2), (3, vI v3), (4, vI v4), (5, vI ((D (wyc G) ((v1 * 10) + v4)) + (D 46 ((v4 * 10) + v2))))]) dX5_shortestWay_66 rfl (by decide) rfl ?_
        refine go_iinc 4 [1, 2, 3, 4, 0, 5] (L' := [(0, vR E 42), (1, vI v1), (2, vI v2), (3, vI v3), (4, vI (v4 + 1)), (5, vI ((D (wyc G) ((v1 * 10) + v4)) + (D 46 ((v4 * 10) + v2))))]) dX5_shortestWay_67 (by decide) rfl rfl ?_
        refine go_goto 6 dX5_shortestWay_70 (by decide) ?_
        refine go_sub [0, 1, 2, 3, 4] (L' := [(0, vR E 42), (1, vI v1), (2, vI v2), (3, vI v3), (4, vI (v4 + 1))]) rfl ?_
        exact h
      · have h := h.2 c9
        refine go_iload 5 dX5_shortestWay_60 rfl ?_
        refine go_goto 66 dX5_shortestWay_62 (by decide) ?_
        refine go_istore_n [1, 2, 3, 0, 4, 5] (L' := [(0, vR E 42), (1, vI v1), (2, vI v2), (3, vI ((D (wyc G) ((v1 * 10) + v4)) + (D 46 ((v4 * 10) + v2)))), (4, vI v4), (5, vI ((D (wyc G) ((v1 * 10) + v4)) + (D 46 ((v4 * 10) + v2))))]) dX5_shortestWay_66 rfl (by decide) rfl ?_
        refine go_iinc 4 [1, 2, 3, 4, 0, 5] (L' := [(0, vR E 42), (1, vI v1), (2, vI v2), (3, vI ((D (wyc G) ((v1 * 10) + v4)) + (D 46 ((v4 * 10) + v2)))), (4, vI (v4 + 1)), (5, vI ((D (wyc G) ((v1 * 10) + v4)) + (D 46 ((v4 * 10) + v2))))]) dX5_shortestWay_67 (by decide) rfl rfl ?_
        refine go_goto 6 dX5_shortestWay_70 (by decide) ?_
        refine go_sub [0, 1, 2, 3, 4] (L' := [(0, vR E 42), (1, vI v1), (2, vI v2), (3, vI ((D (wyc G) ((v1 * 10) + v4)) + (D 46 ((v4 * 10) + v2)))), (4, vI (v4 + 1))]) rfl ?_
        exact h
theorem s_X5_fillRounds {l : Launch} {E : Ev} {Q : Int → Sh → Dm → Prop} {G : Sh} {D : Dm} (hL : Lay G) {v1 : Int}  (h : ((0 ≤ (iSl v1 (D 1 0)) ∧ (iSl v1 (D 1 0)) < ((rdl G : Nat) : Int))) ∧ KX5_fillRounds l E Q 28 [(0, vR E 42), (1, vI v1), (2, vI (iSl 1 (D 1 0))), (3, vI (iSl v1 (D 1 0))), (4, vI 1)] G (upd2 D (rdc G) (iSl v1 (D 1 0)) 0)) : Ct l E MX5_fillRounds 2 0 0 [vR E 42, vI v1] G D Q := by
  refine Ct.of (by decide) (Nat.le_of_ble_eq_true rfl) ?_
  show KX5_fillRounds l E Q 0 [(0, vR E 42), (1, vI v1)] G D
  obtain ⟨s1, h⟩ := h
  refine go_aload_n 0 dX5_fillRounds_0 rfl rfl ?_
  refine go_getR 0 f_X5_42 rfl (hL.1 42 _ rfl) (hL.2.1 42 0 _ rfl (by decide)) dX5_fillRounds_1 ?_
  refine go_vIp (M := MX8_sets) [] [] mv_X5_111 (hL.1 1 _ rfl) rfl (by decide) ⟨Nat.le_of_ble_eq_true rfl, Nat.le_of_ble_eq_true rfl⟩ ⟨Nat.le_refl _, Nat.le_refl _⟩ rfl rfl (Nat.le_of_ble_eq_true rfl) dX5_fillRounds_4 (p_X8_sets hL) ?_
  refine go_istore_n [1, 2, 0] (L' := [(0, vR E 42), (1, vI v1), (2, vI (iSl 1 (D 1 0)))]) dX5_fillRounds_7 rfl (by decide) rfl ?_
  refine go_iload_n 1 dX5_fillRounds_8 rfl rfl ?_
  refine go_aload_n 0 dX5_fillRounds_9 rfl rfl ?_
  refine go_getR 0 f_X5_42 rfl (hL.1 42 _ rfl) (hL.2.1 42 0 _ rfl (by decide)) dX5_fillRounds_10 ?_
  refine go_getI 0 (i := 0) f_X5_95 rfl (hL.1 1 _ rfl) dX5_fillRounds_13 ?_
  refine go_ishl dX5_fillRounds_16 ?_
  refine go_istore_n [1, 2, 3, 0] (L' := [(0, vR E 42), (1, vI v1), (2, vI (iSl 1 (D 1 0))), (3, vI (iSl v1 (D 1 0)))]) dX5_fillRounds_17 rfl (by decide) rfl ?_
  refine go_aload_n 0 dX5_fillRounds_18 rfl rfl ?_
  refine go_getR 8 f_X5_36 rfl (hL.1 42 _ rfl) (lay_rd hL) dX5_fillRounds_19 ?_
  refine go_iload_n 3 dX5_fillRounds_22 rfl rfl ?_
  refine go_iconst dX5_fillRounds_23 ?_
  refine go_iastore (lay_rdT hL) (b := ((rdl G : Nat) : Int)) rfl (lay_rdN hL) s1 (by decide) dX5_fillRounds_24 ?_
  refine go_iconst dX5_fillRounds_25 ?_
  refine go_istore [1, 2, 3, 4, 0] (L' := [(0, vR E 42), (1, vI v1), (2, vI (iSl 1 (D 1 0))), (3, vI (iSl v1 (D 1 0))), (4, vI 1)]) dX5_fillRounds_26 (by decide) rfl ?_
  exact h
theorem s_X5_fillRounds_28 {l : Launch} {E : Ev} {Q : Int → Sh → Dm → Prop} {G : Sh} {D : Dm} (hL : Lay G) {v1 v2 v3 v4 : Int}  (h : ((-2147483648 ≤ v4 ∧ v4 < 2147483648) ∧ (-2147483648 ≤ v2 ∧ v2 < 2147483648)) ∧ ((v2 ≤ v4 → Q 0 G D) ∧ (v4 < v2 → KX5_fillRounds l E Q 41 [(0, vR E 42), (1, vI v1), (2, vI v2), (3, vI v3), (4, vI v4), (5, vI 2147483647), (6, vI 0)] G D))) : KX5_fillRounds l E Q 28 [(0, vR E 42), (1, vI v1), (2, vI v2), (3, vI v3), (4, vI v4)] G D := by
  obtain ⟨s1, h⟩ := h
  refine go_iload 4 dX5_fillRounds_28 rfl ?_
  refine go_iload_n 2 dX5_fillRounds_30 rfl rfl ?_
  refine go_icmp_ge 151 dX5_fillRounds_31 (by decide) s1.1 s1.2 (fun c2 => ?_) (fun c2 => ?_)
  · have h := h.1 c2
    exact go_return (Nat.le_refl _) (Nat.le_refl _) rfl dX5_fillRounds_151 h
  · have h := h.2 c2
    refine go_ldc (x := 2147483647) k_X5_114 dX5_fillRounds_34 ?_
    refine go_istore [1, 2, 3, 4, 5, 0] (L' := [(0, vR E 42), (1, vI v1), (2, vI v2), (3, vI v3), (4, vI v4), (5, vI 2147483647)]) dX5_fillRounds_36 (by decide) rfl ?_
    refine go_iconst dX5_fillRounds_38 ?_
    refine go_istore [1, 2, 3, 4, 5, 6, 0] (L' := [(0, vR E 42), (1, vI v1), (2, vI v2), (3, vI v3), (4, vI v4), (5, vI 2147483647), (6, vI 0)]) dX5_fillRounds_39 (by decide) rfl ?_
    exact h
theorem s_X5_fillRounds_41 {l : Launch} {E : Ev} {Q : Int → Sh → Dm → Prop} {G : Sh} {D : Dm} (hL : Lay G) {v1 v2 v3 v4 v5 v6 : Int}  (h : ((-2147483648 ≤ v6 ∧ v6 < 2147483648)) ∧ (((D 1 0) ≤ v6 → ((0 ≤ (v3 + v4) ∧ (v3 + v4) < ((rdl G : Nat) : Int)) ∧ (-2147483648 ≤ v5 ∧ v5 < 2147483648)) ∧ KX5_fillRounds l E Q 28 [(0, vR E 42), (1, vI v1), (2, vI v2), (3, vI v3), (4, vI (v4 + 1))] G (upd2 D (rdc G) (v3 + v4) v5)) ∧ (v6 < (D 1 0) → (((iA (iSr v4 v6) 1) = 0 → KX5_fillRounds l E Q 41 [(0, vR E 42), (1, vI v1), (2, vI v2), (3, vI v3), (4, vI v4), (5, vI v5), (6, vI (v6 + 1))] G D) ∧ ((iA (iSr v4 v6) 1) ≠ 0 → ((0 ≤ v1 ∧ v1 < 4) ∧ (0 ≤ v6 ∧ v6 < 10) ∧ (-2147483648 < ((D 11 v1) - (D 2 v6)) ∧ ((D 11 v1) - (D 2 v6)) < 2147483648) ∧ (-2147483648 < ((D 12 v1) - (D 3 v6)) ∧ ((D 12 v1) - (D 3 v6)) < 2147483648)) ∧ (((iX v4 (iSl 1 v6)) ≠ 0 → C0 l E MX5_shortestWay 0 [vR E 42, vI (iX v4 (iSl 1 v6)), vI v6] G D (fun r12 D12 => ((0 ≤ ((v4 * 10) + v6) ∧ ((v4 * 10) + v6) < ((wyl G : Nat) : Int)) ∧ (-2147483648 ≤ r12 ∧ r12 < 2147483648) ∧ (-2147483648 ≤ v5 ∧ v5 < 2147483648) ∧ (-2147483648 ≤ (r12 + (((Int.natAbs ((D 11 v1) - (D 2 v6)) : Nat) : Int) + ((Int.natAbs ((D 12 v1) - (D 3 v6)) : Nat) : Int))) ∧ (r12 + (((Int.natAbs ((D 11 v1) - (D 2 v6)) : Nat) : Int) + ((Int.natAbs ((D 12 v1) - (D 3 v6)) : Nat) : Int))) < 2147483648)) ∧ KX5_fillRounds l E Q 41 [(0, vR E 42), (1, vI v1), (2, vI v2), (3, vI v3), (4, vI v4), (5, vI (min v5 (r12 + (((Int.natAbs ((D 11 v1) - (D 2 v6)) : Nat) : Int) + ((Int.natAbs ((D 12 v1) - (D 3 v6)) : Nat) : Int))))), (6, vI (v6 + 1))] G (upd2 D12 (wyc G) ((v4 * 10) + v6) r12))) ∧ ((iX v4 (iSl 1 v6)) = 0 → ((0 ≤ ((v4 * 10) + v6) ∧ ((v4 * 10) + v6) < ((wyl G : Nat) : Int)) ∧ (-2147483648 ≤ (((Int.natAbs ((D 11 v1) - (D 2 v6)) : Nat) : Int) + ((Int.natAbs ((D 12 v1) - (D 3 v6)) : Nat) : Int)) ∧ (((Int.natAbs ((D 11 v1) - (D 2 v6)) : Nat) : Int) + ((Int.natAbs ((D 12 v1) - (D 3 v6)) : Nat) : Int)) < 2147483648) ∧ (-2147483648 ≤ v5 ∧ v5 < 2147483648) ∧ (-2147483648 ≤ ((((Int.natAbs ((D 11 v1) - (D 2 v6)) : Nat) : Int) + ((Int.natAbs ((D 12 v1) - (D 3 v6)) : Nat) : Int)) + (((Int.natAbs ((D 11 v1) - (D 2 v6)) : Nat) : Int) + ((Int.natAbs ((D 12 v1) - (D 3 v6)) : Nat) : Int))) ∧ ((((Int.natAbs ((D 11 v1) - (D 2 v6)) : Nat) : Int) + ((Int.natAbs ((D 12 v1) - (D 3 v6)) : Nat) : Int)) + (((Int.natAbs ((D 11 v1) - (D 2 v6)) : Nat) : Int) + ((Int.natAbs ((D 12 v1) - (D 3 v6)) : Nat) : Int))) < 2147483648)) ∧ KX5_fillRounds l E Q 41 [(0, vR E 42), (1, vI v1), (2, vI v2), (3, vI v3), (4, vI v4), (5, vI (min v5 ((((Int.natAbs ((D 11 v1) - (D 2 v6)) : Nat) : Int) + ((Int.natAbs ((D 12 v1) - (D 3 v6)) : Nat) : Int)) + (((Int.natAbs ((D 11 v1) - (D 2 v6)) : Nat) : Int) + ((Int.natAbs ((D 12 v1) - (D 3 v6)) : Nat) : Int))))), (6, vI (v6 + 1))] G (upd2 D (wyc G) ((v4 * 10) + v6) (((Int.natAbs ((D 11 v1) - (D 2 v6)) : Nat) : Int) + ((Int.natAbs ((D 12 v1) - (D 3 v6)) : Nat) : Int)))))))))) : KX5_fillRounds l E Q 41 [(0, vR E 42), (1, vI v1), (2, vI v2), (3, vI v3), (4, vI v4), (5, vI v5), (6, vI v6)] G D := by
  obtain ⟨s1, h⟩ := h
  refine go_iload 6 dX5_fillRounds_41 rfl ?_
  refine go_aload_n 0 dX5_fillRounds_43 rfl rfl ?_
  refine go_getR 0 f_X5_42 rfl (hL.1 42 _ rfl) (hL.2.1 42 0 _ rfl (by decide)) dX5_fillRounds_44 ?_
  refine go_getI 0 (i := 0) f_X5_95 rfl (hL.1 1 _ rfl) dX5_fillRounds_47 ?_
  refine go_rngI (c := 1) (i := 0) (hL.1 1 _ rfl) rfl (fun (q2 : -2147483648 ≤ (D 1 0) ∧ (D 1 0) < 2147483648) => ?_)
  refine go_icmp_ge 134 dX5_fillRounds_50 (by decide) s1 q2 (fun c3 => ?_) (fun c3 => ?_)
  · have h := h.1 c3
    obtain ⟨s4, h⟩ := h
    refine go_aload_n 0 dX5_fillRounds_134 rfl rfl ?_
    refine go_getR 8 f_X5_36 rfl (hL.1 42 _ rfl) (lay_rd hL) dX5_fillRounds_135 ?_
    refine go_iload_n 3 dX5_fillRounds_138 rfl rfl ?_
    refine go_iload 4 dX5_fillRounds_139 rfl ?_
    refine go_iadd dX5_fillRounds_141 ?_
    refine go_iload 5 dX5_fillRounds_142 rfl ?_
    refine go_iastore (lay_rdT hL) (b := ((rdl G : Nat) : Int)) rfl (lay_rdN hL) s4.1 s4.2 dX5_fillRounds_144 ?_
    refine go_iinc 4 [1, 2, 3, 4, 0, 5, 6] (L' := [(0, vR E 42), (1, vI v1), (2, vI v2), (3, vI v3), (4, vI (v4 + 1)), (5, vI v5), (6, vI v6)]) dX5_fillRounds_145 (by decide) rfl rfl ?_
    refine go_goto 28 dX5_fillRounds_148 (by decide) ?_
    refine go_sub [0, 1, 2, 3, 4] (L' := [(0, vR E 42), (1, vI v1), (2, vI v2), (3, vI v3), (4, vI (v4 + 1))]) rfl ?_
    exact h
  · have h := h.2 c3
    refine go_iload 4 dX5_fillRounds_53 rfl ?_
    refine go_iload 6 dX5_fillRounds_55 rfl ?_
    refine go_ishr dX5_fillRounds_57 ?_
    refine go_iconst dX5_fillRounds_58 ?_
    refine go_iand dX5_fillRounds_59 ?_
    refine go_if_eq 128 dX5_fillRounds_60 (by decide) (r32 _) (fun c6 => ?_) (fun c6 => ?_)
    · have h := h.1 c6
      refine go_iinc 6 [1, 2, 3, 4, 5, 6, 0] (L' := [(0, vR E 42), (1, vI v1), (2, vI v2), (3, vI v3), (4, vI v4), (5, vI v5), (6, vI (v6 + 1))]) dX5_fillRounds_128 (by decide) rfl rfl ?_
      refine go_goto 41 dX5_fillRounds_131 (by decide) ?_
      exact h
    · have h := h.2 c6
      obtain ⟨s8, h⟩ := h
      refine go_aload_n 0 dX5_fillRounds_63 rfl rfl ?_
      refine go_iload_n 1 dX5_fillRounds_64 rfl rfl ?_
      refine go_iload 6 dX5_fillRounds_65 rfl ?_
      refine go_vIp (M := MX5_stepsFromHome) [vI v1, vI v6] [] mv_X5_115 (hL.1 42 _ rfl) rfl (by decide) ⟨Nat.le_of_ble_eq_true rfl, Nat.le_of_ble_eq_true rfl⟩ ⟨Nat.le_refl _, Nat.le_refl _⟩ rfl rfl (Nat.le_of_ble_eq_true rfl) dX5_fillRounds_67 (p_X5_stepsFromHome hL s8.1 s8.2.1 s8.2.2.1 s8.2.2.2) ?_
      refine go_istore [1, 2, 3, 4, 5, 6, 7, 0] (L' := [(0, vR E 42), (1, vI v1), (2, vI v2), (3, vI v3), (4, vI v4), (5, vI v5), (6, vI v6), (7, vI (((Int.natAbs ((D 11 v1) - (D 2 v6)) : Nat) : Int) + ((Int.natAbs ((D 12 v1) - (D 3 v6)) : Nat) : Int)))]) dX5_fillRounds_70 (by decide) rfl ?_
      refine go_iload 4 dX5_fillRounds_72 rfl ?_
      refine go_iconst dX5_fillRounds_74 ?_
      refine go_iload 6 dX5_fillRounds_75 rfl ?_
      refine go_ishl dX5_fillRounds_77 ?_
      refine go_ixor dX5_fillRounds_78 ?_
      refine go_istore [1, 2, 3, 4, 5, 6, 7, 8, 0] (L' := [(0, vR E 42), (1, vI v1), (2, vI v2), (3, vI v3), (4, vI v4), (5, vI v5), (6, vI v6), (7, vI (((Int.natAbs ((D 11 v1) - (D 2 v6)) : Nat) : Int) + ((Int.natAbs ((D 12 v1) - (D 3 v6)) : Nat) : Int))), (8, vI (iX v4 (iSl 1 v6)))]) dX5_fillRounds_79 (by decide) rfl ?_
      refine go_iload 8 dX5_fillRounds_81 rfl ?_
      refine go_if_ne 91 dX5_fillRounds_83 (by decide) (r32 _) (fun c10 => ?_) (fun c10 => ?_)
      · have h := h.1 c10
        refine go_aload_n 0 dX5_fillRounds_91 rfl rfl ?_
        refine go_iload 8 dX5_fillRounds_92 rfl ?_
        refine go_iload 6 dX5_fillRounds_94 rfl ?_
        refine go_vI (M := MX5_shortestWay) [vI (iX v4 (iSl 1 v6)), vI v6] [] mv_X5_118 (hL.1 42 _ rfl) rfl (by decide) ⟨Nat.le_of_ble_eq_true rfl, Nat.le_of_ble_eq_true rfl⟩ ⟨Nat.le_refl _, Nat.le_refl _⟩ rfl rfl (Nat.le_of_ble_eq_true rfl) dX5_fillRounds_96 h (fun r12 D12 h => ?_)
        obtain ⟨s13, h⟩ := h
        refine go_istore [1, 2, 3, 4, 5, 6, 7, 8, 9, 0] (L' := [(0, vR E 42), (1, vI v1), (2, vI v2), (3, vI v3), (4, vI v4), (5, vI v5), (6, vI v6), (7, vI (((Int.natAbs ((D 11 v1) - (D 2 v6)) : Nat) : Int) + ((Int.natAbs ((D 12 v1) - (D 3 v6)) : Nat) : Int))), (8, vI (iX v4 (iSl 1 v6))), (9, vI r12)]) dX5_fillRounds_99 (by decide) rfl ?_
        refine go_aload_n 0 dX5_fillRounds_101 rfl rfl ?_
        refine go_getR 9 f_X5_39 rfl (hL.1 42 _ rfl) (lay_wy hL) dX5_fillRounds_102 ?_
        refine go_iload 4 dX5_fillRounds_105 rfl ?_
        refine go_bipush dX5_fillRounds_107 (by decide) ?_
        refine go_imul dX5_fillRounds_109 ?_
        refine go_iload 6 dX5_fillRounds_110 rfl ?_
        refine go_iadd dX5_fillRounds_112 ?_
        refine go_iload 9 dX5_fillRounds_113 rfl ?_
        refine go_iastore (lay_wyT hL) (b := ((wyl G : Nat) : Int)) rfl (lay_wyN hL) s13.1 s13.2.1 dX5_fillRounds_115 ?_
        refine go_iload 5 dX5_fillRounds_116 rfl ?_
        refine go_iload 9 dX5_fillRounds_118 rfl ?_
        refine go_iload 7 dX5_fillRounds_120 rfl ?_
        refine go_iadd dX5_fillRounds_122 ?_
        refine go_mmin ma_X5_121 s13.2.2.1 s13.2.2.2 ⟨by decide, Nat.le_of_ble_eq_true rfl⟩ ⟨Nat.le_refl _, Nat.le_refl _⟩ dX5_fillRounds_123 ?_
        refine go_istore [1, 2, 3, 4, 5, 0, 6, 7, 8, 9] (L' := [(0, vR E 42), (1, vI v1), (2, vI v2), (3, vI v3), (4, vI v4), (5, vI (min v5 (r12 + (((Int.natAbs ((D 11 v1) - (D 2 v6)) : Nat) : Int) + ((Int.natAbs ((D 12 v1) - (D 3 v6)) : Nat) : Int))))), (6, vI v6), (7, vI (((Int.natAbs ((D 11 v1) - (D 2 v6)) : Nat) : Int) + ((Int.natAbs ((D 12 v1) - (D 3 v6)) : Nat) : Int))), (8, vI (iX v4 (iSl 1 v6))), (9, vI r12)]) dX5_fillRounds_126 (by decide) rfl ?_
        refine go_iinc 6 [1, 2, 3, 4, 5, 6, 0, 7, 8, 9] (L' := [(0, vR E 42), (1, vI v1), (2, vI v2), (3, vI v3), (4, vI v4), (5, vI (min v5 (r12 + (((Int.natAbs ((D 11 v1) - (D 2 v6)) : Nat) : Int) + ((Int.natAbs ((D 12 v1) - (D 3 v6)) : Nat) : Int))))), (6, vI (v6 + 1)), (7, vI (((Int.natAbs ((D 11 v1) - (D 2 v6)) : Nat) : Int) + ((Int.natAbs ((D 12 v1) - (D 3 v6)) : Nat) : Int))), (8, vI (iX v4 (iSl 1 v6))), (9, vI r12)]) dX5_fillRounds_128 (by decide) rfl rfl ?_
        refine go_goto 41 dX5_fillRounds_131 (by decide) ?_
        refine go_sub [0, 1, 2, 3, 4, 5, 6] (L' := [(0, vR E 42), (1, vI v1), (2, vI v2), (3, vI v3), (4, vI v4), (5, vI (min v5 (r12 + (((Int.natAbs ((D 11 v1) - (D 2 v6)) : Nat) : Int) + ((Int.natAbs ((D 12 v1) - (D 3 v6)) : Nat) : Int))))), (6, vI (v6 + 1))]) rfl ?_
        exact h
      · have h := h.2 c10
        obtain ⟨s14, h⟩ := h
        refine go_iload 7 dX5_fillRounds_86 rfl ?_
        refine go_goto 99 dX5_fillRounds_88 (by decide) ?_
        refine go_istore [1, 2, 3, 4, 5, 6, 7, 8, 9, 0] (L' := [(0, vR E 42), (1, vI v1), (2, vI v2), (3, vI v3), (4, vI v4), (5, vI v5), (6, vI v6), (7, vI (((Int.natAbs ((D 11 v1) - (D 2 v6)) : Nat) : Int) + ((Int.natAbs ((D 12 v1) - (D 3 v6)) : Nat) : Int))), (8, vI (iX v4 (iSl 1 v6))), (9, vI (((Int.natAbs ((D 11 v1) - (D 2 v6)) : Nat) : Int) + ((Int.natAbs ((D 12 v1) - (D 3 v6)) : Nat) : Int)))]) dX5_fillRounds_99 (by decide) rfl ?_
        refine go_aload_n 0 dX5_fillRounds_101 rfl rfl ?_
        refine go_getR 9 f_X5_39 rfl (hL.1 42 _ rfl) (lay_wy hL) dX5_fillRounds_102 ?_
        refine go_iload 4 dX5_fillRounds_105 rfl ?_
        refine go_bipush dX5_fillRounds_107 (by decide) ?_
        refine go_imul dX5_fillRounds_109 ?_
        refine go_iload 6 dX5_fillRounds_110 rfl ?_
        refine go_iadd dX5_fillRounds_112 ?_
        refine go_iload 9 dX5_fillRounds_113 rfl ?_
        refine go_iastore (lay_wyT hL) (b := ((wyl G : Nat) : Int)) rfl (lay_wyN hL) s14.1 s14.2.1 dX5_fillRounds_115 ?_
        refine go_iload 5 dX5_fillRounds_116 rfl ?_
        refine go_iload 9 dX5_fillRounds_118 rfl ?_
        refine go_iload 7 dX5_fillRounds_120 rfl ?_
        refine go_iadd dX5_fillRounds_122 ?_
        refine go_mmin ma_X5_121 s14.2.2.1 s14.2.2.2 ⟨by decide, Nat.le_of_ble_eq_true rfl⟩ ⟨Nat.le_refl _, Nat.le_refl _⟩ dX5_fillRounds_123 ?_
        refine go_istore [1, 2, 3, 4, 5, 0, 6, 7, 8, 9] (L' := [(0, vR E 42), (1, vI v1), (2, vI v2), (3, vI v3), (4, vI v4), (5, vI (min v5 ((((Int.natAbs ((D 11 v1) - (D 2 v6)) : Nat) : Int) + ((Int.natAbs ((D 12 v1) - (D 3 v6)) : Nat) : Int)) + (((Int.natAbs ((D 11 v1) - (D 2 v6)) : Nat) : Int) + ((Int.natAbs ((D 12 v1) - (D 3 v6)) : Nat) : Int))))), (6, vI v6), (7, vI (((Int.natAbs ((D 11 v1) - (D 2 v6)) : Nat) : Int) + ((Int.natAbs ((D 12 v1) - (D 3 v6)) : Nat) : Int))), (8, vI (iX v4 (iSl 1 v6))), (9, vI (((Int.natAbs ((D 11 v1) - (D 2 v6)) : Nat) : Int) + ((Int.natAbs ((D 12 v1) - (D 3 v6)) : Nat) : Int)))]) dX5_fillRounds_126 (by decide) rfl ?_
        refine go_iinc 6 [1, 2, 3, 4, 5, 6, 0, 7, 8, 9] (L' := [(0, vR E 42), (1, vI v1), (2, vI v2), (3, vI v3), (4, vI v4), (5, vI (min v5 ((((Int.natAbs ((D 11 v1) - (D 2 v6)) : Nat) : Int) + ((Int.natAbs ((D 12 v1) - (D 3 v6)) : Nat) : Int)) + (((Int.natAbs ((D 11 v1) - (D 2 v6)) : Nat) : Int) + ((Int.natAbs ((D 12 v1) - (D 3 v6)) : Nat) : Int))))), (6, vI (v6 + 1)), (7, vI (((Int.natAbs ((D 11 v1) - (D 2 v6)) : Nat) : Int) + ((Int.natAbs ((D 12 v1) - (D 3 v6)) : Nat) : Int))), (8, vI (iX v4 (iSl 1 v6))), (9, vI (((Int.natAbs ((D 11 v1) - (D 2 v6)) : Nat) : Int) + ((Int.natAbs ((D 12 v1) - (D 3 v6)) : Nat) : Int)))]) dX5_fillRounds_128 (by decide) rfl rfl ?_
        refine go_goto 41 dX5_fillRounds_131 (by decide) ?_
        refine go_sub [0, 1, 2, 3, 4, 5, 6] (L' := [(0, vR E 42), (1, vI v1), (2, vI v2), (3, vI v3), (4, vI v4), (5, vI (min v5 ((((Int.natAbs ((D 11 v1) - (D 2 v6)) : Nat) : Int) + ((Int.natAbs ((D 12 v1) - (D 3 v6)) : Nat) : Int)) + (((Int.natAbs ((D 11 v1) - (D 2 v6)) : Nat) : Int) + ((Int.natAbs ((D 12 v1) - (D 3 v6)) : Nat) : Int))))), (6, vI (v6 + 1))]) rfl ?_
        exact h
theorem s_X5_ready {l : Launch} {E : Ev} {mc ms : Nat} {Q : Int → Sh → Dm → Prop} {G : Sh} {D : Dm} (hL : Lay G)  (h : C0 l E MX5_weigh 2 [vR E 42, vI (-1), vI 0] G D (fun r2 D2 => (((D2 42 5) = 0 → C0 l E MX5_fillKept 2 [vR E 42] G (upd2 D2 42 5 1) (fun r7 D7 => C0 l E MX5_fillApart 2 [vR E 42] G D7 (fun r9 D9 => Ct l E MX5_makeRoom 2 mc ms [vR E 42] G D9 (fun r11 G11 D11 => Lay G11 ∧ KX5_ready l E mc ms (0 + mc) (0 + ms) Q 33 [(0, vR E 42), (1, vI 0)] G11 D11)))) ∧ ((D2 42 5) ≠ 0 → Q 0 G D2)))) : Ct l E MX5_ready 2 mc ms [vR E 42] G D Q := by
  refine Ct.of (by decide) (Nat.le_of_ble_eq_true rfl) ?_
  show KX5_ready l E mc ms 0 0 Q 0 [(0, vR E 42)] G D
  refine go_aload_n 0 dX5_ready_0 rfl rfl ?_
  refine go_iconst dX5_ready_1 ?_
  refine go_iconst dX5_ready_2 ?_
  refine go_vV (M := MX5_weigh) [vI (-1), vI 0] [] mv_X5_46 (hL.1 42 _ rfl) rfl (by decide) ⟨Nat.le_of_ble_eq_true rfl, Nat.le_of_ble_eq_true rfl⟩ ⟨Nat.zero_le _, Nat.zero_le _⟩ rfl rfl (Nat.le_of_ble_eq_true rfl) dX5_ready_3 h (fun r2 D2 h => ?_)
  refine go_aload_n 0 dX5_ready_6 rfl rfl ?_
  refine go_getZ 5 (i := 5) f_X5_26 rfl (hL.1 42 _ rfl) dX5_ready_7 ?_
  refine go_rngI (c := 42) (i := 5) (hL.1 42 _ rfl) rfl (fun (q4 : -2147483648 ≤ (D2 42 5) ∧ (D2 42 5) < 2147483648) => ?_)
  refine go_if_eq 14 dX5_ready_10 (by decide) q4 (fun c5 => ?_) (fun c5 => ?_)
  · have h := h.1 c5
    refine go_aload_n 0 dX5_ready_14 rfl rfl ?_
    refine go_iconst dX5_ready_15 ?_
    refine go_putZ 5 (i := 5) (by decide) f_X5_26 rfl (hL.1 42 _ rfl) dX5_ready_16 ?_
    refine go_aload_n 0 dX5_ready_19 rfl rfl ?_
    refine go_vV (M := MX5_fillKept) [] [] mv_X5_50 (hL.1 42 _ rfl) rfl (by decide) ⟨Nat.le_of_ble_eq_true rfl, Nat.le_of_ble_eq_true rfl⟩ ⟨Nat.zero_le _, Nat.zero_le _⟩ rfl rfl (Nat.le_of_ble_eq_true rfl) dX5_ready_20 h (fun r7 D7 h => ?_)
    refine go_aload_n 0 dX5_ready_23 rfl rfl ?_
    refine go_vV (M := MX5_fillApart) [] [] mv_X5_53 (hL.1 42 _ rfl) rfl (by decide) ⟨Nat.le_of_ble_eq_true rfl, Nat.le_of_ble_eq_true rfl⟩ ⟨Nat.zero_le _, Nat.zero_le _⟩ rfl rfl (Nat.le_of_ble_eq_true rfl) dX5_ready_24 h (fun r9 D9 h => ?_)
    refine go_aload_n 0 dX5_ready_27 rfl rfl ?_
    refine go_vM (M := MX5_makeRoom) [] [] mv_X5_56 (hL.1 42 _ rfl) rfl (by decide) ⟨Nat.le_of_ble_eq_true rfl, Nat.le_of_ble_eq_true rfl⟩ ⟨Nat.le_of_eq (Nat.zero_add _), Nat.le_of_eq (Nat.zero_add _)⟩ rfl rfl (Nat.le_of_ble_eq_true rfl) dX5_ready_28 h (fun r11 G11 D11 h => ?_)
    obtain ⟨hL11, h⟩ := h
    refine go_iconst dX5_ready_31 ?_
    refine go_istore_n [1, 0] (L' := [(0, vR E 42), (1, vI 0)]) dX5_ready_32 rfl (by decide) rfl ?_
    exact h
  · have h := h.2 c5
    exact go_return (Nat.zero_le _) (Nat.zero_le _) rfl dX5_ready_13 h
theorem s_X5_ready_33 {l : Launch} {E : Ev} {mc ms k n : Nat} {Q : Int → Sh → Dm → Prop} {G : Sh} {D : Dm} (hL : Lay G) (hk : k ≤ mc) (hn : n ≤ ms) {v1 : Int}  (h : ((-2147483648 ≤ v1 ∧ v1 < 2147483648)) ∧ (((D 1 2) ≤ v1 → Q 0 G D) ∧ (v1 < (D 1 2) → C0 l E MX5_fillRounds 2 [vR E 42, vI v1] G D (fun r6 D6 => KX5_ready l E mc ms k n Q 33 [(0, vR E 42), (1, vI (v1 + 1))] G D6)))) : KX5_ready l E mc ms k n Q 33 [(0, vR E 42), (1, vI v1)] G D := by
  obtain ⟨s1, h⟩ := h
  refine go_iload_n 1 dX5_ready_33 rfl rfl ?_
  refine go_aload_n 0 dX5_ready_34 rfl rfl ?_
  refine go_getR 0 f_X5_42 rfl (hL.1 42 _ rfl) (hL.2.1 42 0 _ rfl (by decide)) dX5_ready_35 ?_
  refine go_getI 2 (i := 2) f_X5_59 rfl (hL.1 1 _ rfl) dX5_ready_38 ?_
  refine go_rngI (c := 1) (i := 2) (hL.1 1 _ rfl) rfl (fun (q2 : -2147483648 ≤ (D 1 2) ∧ (D 1 2) < 2147483648) => ?_)
  refine go_icmp_ge 55 dX5_ready_41 (by decide) s1 q2 (fun c3 => ?_) (fun c3 => ?_)
  · have h := h.1 c3
    exact go_return hk hn rfl dX5_ready_55 h
  · have h := h.2 c3
    refine go_aload_n 0 dX5_ready_44 rfl rfl ?_
    refine go_iload_n 1 dX5_ready_45 rfl rfl ?_
    refine go_vV (M := MX5_fillRounds) [vI v1] [] mv_X5_65 (hL.1 42 _ rfl) rfl (by decide) ⟨Nat.le_of_ble_eq_true rfl, Nat.le_of_ble_eq_true rfl⟩ ⟨hk, hn⟩ rfl rfl (Nat.le_of_ble_eq_true rfl) dX5_ready_46 h (fun r6 D6 h => ?_)
    refine go_iinc 1 [1, 0] (L' := [(0, vR E 42), (1, vI (v1 + 1))]) dX5_ready_49 (by decide) rfl rfl ?_
    refine go_goto 33 dX5_ready_52 (by decide) ?_
    exact h
theorem s_X5_wholeWeight {l : Launch} {E : Ev} {Q : Int → Sh → Dm → Prop} {G : Sh} {D : Dm} (hL : Lay G)  (h : Q (jSl 1 (4 * (D 1 1))) G D) : Ct l E MX5_wholeWeight 1 0 0 [vR E 42] G D Q := by
  refine Ct.of (by decide) (Nat.le_of_ble_eq_true rfl) ?_
  show KX5_wholeWeight l E Q 0 [(0, vR E 42)] G D
  refine go_lconst (x := 1) dX5_wholeWeight_0 rfl ?_
  refine go_iconst dX5_wholeWeight_1 ?_
  refine go_aload_n 0 dX5_wholeWeight_2 rfl rfl ?_
  refine go_getR 0 f_X5_42 rfl (hL.1 42 _ rfl) (hL.2.1 42 0 _ rfl (by decide)) dX5_wholeWeight_3 ?_
  refine go_getI 1 (i := 1) f_X5_77 rfl (hL.1 1 _ rfl) dX5_wholeWeight_6 ?_
  refine go_imul dX5_wholeWeight_9 ?_
  refine go_lshl dX5_wholeWeight_10 ?_
  exact go_lreturn (Nat.le_refl _) (Nat.le_refl _) rfl dX5_wholeWeight_11 h
theorem p_X5_wholeWeight {l : Launch} {E : Ev} {G : Sh} {D : Dm} (hL : Lay G)   : C0 l E MX5_wholeWeight 1 [vR E 42] G D (fun r D' => r = (jSl 1 (4 * (D 1 1))) ∧ D' = D) := s_X5_wholeWeight hL ⟨rfl, rfl, rfl⟩
theorem s_X5_halvingsUntilHungry {l : Launch} {E : Ev} {Q : Int → Sh → Dm → Prop} {G : Sh} {D : Dm} (hL : Lay G) {v1 v2 : Int}  (h : C0 l E MX8_heldBy 0 [vR E 1, vI v1] G D (fun r2 D2 => KX5_halvingsUntilHungry l E Q 12 [(0, vR E 42), (1, vI v1), (2, vI v2), (3, vI r2), (4, vI 0)] G D2)) : Ct l E MX5_halvingsUntilHungry 0 0 0 [vR E 42, vI v1, vI v2] G D Q := by
  refine Ct.of (by decide) (Nat.le_of_ble_eq_true rfl) ?_
  show KX5_halvingsUntilHungry l E Q 0 [(0, vR E 42), (1, vI v1), (2, vI v2)] G D
  refine go_aload_n 0 dX5_halvingsUntilHungry_0 rfl rfl ?_
  refine go_getR 0 f_X5_42 rfl (hL.1 42 _ rfl) (hL.2.1 42 0 _ rfl (by decide)) dX5_halvingsUntilHungry_1 ?_
  refine go_iload_n 1 dX5_halvingsUntilHungry_4 rfl rfl ?_
  refine go_vI (M := MX8_heldBy) [vI v1] [] mv_X5_152 (hL.1 1 _ rfl) rfl (by decide) ⟨Nat.le_of_ble_eq_true rfl, Nat.le_of_ble_eq_true rfl⟩ ⟨Nat.le_refl _, Nat.le_refl _⟩ rfl rfl (Nat.le_of_ble_eq_true rfl) dX5_halvingsUntilHungry_5 h (fun r2 D2 h => ?_)
  refine go_istore_n [1, 2, 3, 0] (L' := [(0, vR E 42), (1, vI v1), (2, vI v2), (3, vI r2)]) dX5_halvingsUntilHungry_8 rfl (by decide) rfl ?_
  refine go_iconst dX5_halvingsUntilHungry_9 ?_
  refine go_istore [1, 2, 3, 4, 0] (L' := [(0, vR E 42), (1, vI v1), (2, vI v2), (3, vI r2), (4, vI 0)]) dX5_halvingsUntilHungry_10 (by decide) rfl ?_
  exact h
theorem s_X5_halvingsUntilHungry_12 {l : Launch} {E : Ev} {Q : Int → Sh → Dm → Prop} {G : Sh} {D : Dm} (hL : Lay G) {v1 v2 v3 v4 : Int}  (h : ((-2147483648 ≤ v4 ∧ v4 < 2147483648)) ∧ ((6 < v4 → Q (-1) G D) ∧ (v4 ≤ 6 → C0 l E MX5_fillNets 2 [vR E 42, vI v1, vI v3, vI v4] G D (fun r5 D5 => ((0 ≤ v1 ∧ v1 < 4)) ∧ C0 l E MX5_weightAtMost 1 [vR E 42, vI ((D5 13 v1) - 1)] G D5 (fun r7 D7 => ((-2147483648 ≤ v2 ∧ v2 < 2147483648) ∧ (-9223372036854775808 ≤ (r7 * 16) ∧ (r7 * 16) < 9223372036854775808) ∧ (-9223372036854775808 ≤ (v2 * (jSl 1 (4 * (D7 1 1)))) ∧ (v2 * (jSl 1 (4 * (D7 1 1)))) < 9223372036854775808)) ∧ (((r7 * 16) < (v2 * (jSl 1 (4 * (D7 1 1)))) → KX5_halvingsUntilHungry l E Q 12 [(0, vR E 42), (1, vI v1), (2, vI v2), (3, vI v3), (4, vI (v4 + 1))] G D7) ∧ ((v2 * (jSl 1 (4 * (D7 1 1)))) ≤ (r7 * 16) → Q v4 G D7))))))) : KX5_halvingsUntilHungry l E Q 12 [(0, vR E 42), (1, vI v1), (2, vI v2), (3, vI v3), (4, vI v4)] G D := by
  obtain ⟨s1, h⟩ := h
  refine go_iload 4 dX5_halvingsUntilHungry_12 rfl ?_
  refine go_bipush dX5_halvingsUntilHungry_14 (by decide) ?_
  refine go_icmp_gt 66 dX5_halvingsUntilHungry_16 (by decide) s1 (by decide) (fun c2 => ?_) (fun c2 => ?_)
  · have h := h.1 c2
    refine go_iconst dX5_halvingsUntilHungry_66 ?_
    exact go_ireturn (Nat.le_refl _) (Nat.le_refl _) rfl dX5_halvingsUntilHungry_67 h
  · have h := h.2 c2
    refine go_aload_n 0 dX5_halvingsUntilHungry_19 rfl rfl ?_
    refine go_iload_n 1 dX5_halvingsUntilHungry_20 rfl rfl ?_
    refine go_iload_n 3 dX5_halvingsUntilHungry_21 rfl rfl ?_
    refine go_iload 4 dX5_halvingsUntilHungry_22 rfl ?_
    refine go_vV (M := MX5_fillNets) [vI v1, vI v3, vI v4] [] mv_X5_139 (hL.1 42 _ rfl) rfl (by decide) ⟨Nat.le_of_ble_eq_true rfl, Nat.le_of_ble_eq_true rfl⟩ ⟨Nat.le_refl _, Nat.le_refl _⟩ rfl rfl (Nat.le_of_ble_eq_true rfl) dX5_halvingsUntilHungry_24 h (fun r5 D5 h => ?_)
    obtain ⟨s6, h⟩ := h
    refine go_aload_n 0 dX5_halvingsUntilHungry_27 rfl rfl ?_
    refine go_aload_n 0 dX5_halvingsUntilHungry_28 rfl rfl ?_
    refine go_getR 0 f_X5_42 rfl (hL.1 42 _ rfl) (hL.2.1 42 0 _ rfl (by decide)) dX5_halvingsUntilHungry_29 ?_
    refine go_getR 16 f_X5_143 rfl (hL.1 1 _ rfl) (hL.2.1 1 16 _ rfl (by decide)) dX5_halvingsUntilHungry_32 ?_
    refine go_iload_n 1 dX5_halvingsUntilHungry_35 rfl rfl ?_
    refine go_iaload (hL.1 13 _ rfl) (b := 4) rfl (by decide) s6 dX5_halvingsUntilHungry_36 ?_
    refine go_iconst dX5_halvingsUntilHungry_37 ?_
    refine go_isub dX5_halvingsUntilHungry_38 ?_
    refine go_vJ (M := MX5_weightAtMost) [vI ((D5 13 v1) - 1)] [] mv_X5_155 (hL.1 42 _ rfl) rfl (by decide) ⟨Nat.le_of_ble_eq_true rfl, Nat.le_of_ble_eq_true rfl⟩ ⟨Nat.le_refl _, Nat.le_refl _⟩ rfl rfl (Nat.le_of_ble_eq_true rfl) dX5_halvingsUntilHungry_39 h (fun r7 D7 h => ?_)
    obtain ⟨s8, h⟩ := h
    refine go_ldc2 (x := 16) k_X5_159 dX5_halvingsUntilHungry_42 ?_
    refine go_lmul dX5_halvingsUntilHungry_45 ?_
    refine go_iload_n 2 dX5_halvingsUntilHungry_46 rfl rfl ?_
    refine go_i2l s8.1 dX5_halvingsUntilHungry_47 ?_
    refine go_aload_n 0 dX5_halvingsUntilHungry_48 rfl rfl ?_
    refine go_vJp (M := MX5_wholeWeight) [] [vJ v2, vJ (r7 * 16)] mv_X5_161 (hL.1 42 _ rfl) rfl (by decide) ⟨Nat.le_of_ble_eq_true rfl, Nat.le_of_ble_eq_true rfl⟩ ⟨Nat.le_refl _, Nat.le_refl _⟩ rfl rfl (Nat.le_of_ble_eq_true rfl) dX5_halvingsUntilHungry_49 (p_X5_wholeWeight hL) ?_
    refine go_lmul dX5_halvingsUntilHungry_52 ?_
    refine go_lcmp_lt 60 dX5_halvingsUntilHungry_53 dX5_halvingsUntilHungry_54 (by decide) s8.2.1 s8.2.2 (fun c10 => ?_) (fun c10 => ?_)
    · have h := h.1 c10
      refine go_iinc 4 [1, 2, 3, 4, 0] (L' := [(0, vR E 42), (1, vI v1), (2, vI v2), (3, vI v3), (4, vI (v4 + 1))]) dX5_halvingsUntilHungry_60 (by decide) rfl rfl ?_
      refine go_goto 12 dX5_halvingsUntilHungry_63 (by decide) ?_
      exact h
    · have h := h.2 c10
      refine go_iload 4 dX5_halvingsUntilHungry_57 rfl ?_
      exact go_ireturn (Nat.le_refl _) (Nat.le_refl _) rfl dX5_halvingsUntilHungry_59 h
