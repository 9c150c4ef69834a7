/-! ===== the constructors ===== -/
theorem mG_len {G : Sh} {N : Nat} (hN : G.1.length = N) : (mG G N 4).1.length = N + 5 := (mG_ok hN 4).1
theorem mG_at {G : Sh} {N x : Nat} {t : Tg} (hN : G.1.length = N) (hc : G.1[x]? = some t) : (mG G N 4).1[x]? = some t := sR_at (gr_at (sR_at (gr_at (sR_at (gr_at (sR_at (gr_at (gr_at hc))))))))
def g_X8_init (G : Sh) (c N : Nat) : Sh := (sR (gr (sR (gr (sR (gr (sR (gr (sR (gr (sR (gr (sR (gr (sR (gr (sR (gr (sR (gr (sR (gr (sR (gr G N (100, 10)) c 5 N) (N + 1) (100, 10)) c 6 (N + 1)) (N + 2) (100, 10)) c 7 (N + 2)) (N + 3) (100, 10)) c 8 (N + 3)) (N + 4) (100, 10)) c 9 (N + 4)) (N + 5) (100, 6)) c 10 (N + 5)) (N + 6) (100, 6)) c 11 (N + 6)) (N + 7) (100, 6)) c 12 (N + 7)) (N + 8) (100, 6)) c 13 (N + 8)) (N + 9) (100, 4)) c 14 (N + 9)) (N + 10) (100, 4)) c 15 (N + 10)) (N + 11) (100, 4)) c 16 (N + 11))
def d_X8_init (D : Dm) (c N : Nat) : Dm := (newD (newD (newD (newD (newD (newD (newD (newD (newD (newD (newD (newD (upd2 (upd2 (upd2 (upd2 (upd2 D c 0 0) c 1 0) c 2 0) c 3 10) c 4 1) N) (N + 1)) (N + 2)) (N + 3)) (N + 4)) (N + 5)) (N + 6)) (N + 7)) (N + 8)) (N + 9)) (N + 10)) (N + 11))
theorem gl_X8_init {G : Sh} {c N : Nat} (hN : G.1.length = N) : (g_X8_init G c N).1.length = N + 12 := (sR_len (gr_len (sR_len (gr_len (sR_len (gr_len (sR_len (gr_len (sR_len (gr_len (sR_len (gr_len (sR_len (gr_len (sR_len (gr_len (sR_len (gr_len (sR_len (gr_len (sR_len (gr_len (sR_len (gr_len hN))))))))))))))))))))))))
theorem ga_X8_init {G : Sh} {c N x : Nat} {t : Tg} (hN : G.1.length = N) (hc : G.1[x]? = some t) : (g_X8_init G c N).1[x]? = some t := (sR_at (gr_at (sR_at (gr_at (sR_at (gr_at (sR_at (gr_at (sR_at (gr_at (sR_at (gr_at (sR_at (gr_at (sR_at (gr_at (sR_at (gr_at (sR_at (gr_at (sR_at (gr_at (sR_at (gr_at hc))))))))))))))))))))))))
set_option maxHeartbeats 4000000 in
set_option maxRecDepth 20000 in
theorem n_X8_init {l : Launch} {E : Ev} {G : Sh} {D : Dm} {c N : Nat} (hc : G.1[c]? = some (8, 17)) (hN : G.1.length = N) : Ct l E MX8_init 2 12 86 [vR E c] G D (fun _ G' D' => G' = g_X8_init G c N ∧ D' = d_X8_init D c N) := by
  refine Ct.of (by decide) (Nat.le_of_ble_eq_true rfl) ?_
  show Go l E cX8_init 1 RX8 (rmO MX8_init 12 86) (PfM MX8_init) (QfM E 2 12 86 _) 0 0 0 [(0, vR E c)] [] G D
  refine go_aload_n 0 dX8_init_0 rfl rfl ?_
  refine go_oI oi_X8 ⟨Nat.le_of_ble_eq_true rfl, Nat.le_of_ble_eq_true rfl⟩ (Nat.le_of_ble_eq_true rfl) dX8_init_1 ?_
  refine go_aload_n 0 dX8_init_4 rfl rfl ?_
  refine go_iconst dX8_init_5 ?_
  refine go_putI 0 (i := 0) (by decide) f_X8_9 rfl hc dX8_init_6 ?_
  refine go_aload_n 0 dX8_init_9 rfl rfl ?_
  refine go_iconst dX8_init_10 ?_
  refine go_putI 1 (i := 1) (by decide) f_X8_15 rfl hc dX8_init_11 ?_
  refine go_aload_n 0 dX8_init_14 rfl rfl ?_
  refine go_iconst dX8_init_15 ?_
  refine go_putI 2 (i := 2) (by decide) f_X8_18 rfl hc dX8_init_16 ?_
  refine go_aload_n 0 dX8_init_19 rfl rfl ?_
  refine go_bipush dX8_init_20 (by decide) ?_
  refine go_putI 3 (i := 3) (by decide) f_X8_21 rfl hc dX8_init_22 ?_
  refine go_aload_n 0 dX8_init_25 rfl rfl ?_
  refine go_iconst dX8_init_26 ?_
  refine go_putI 4 (i := 4) (by decide) f_X8_24 rfl hc dX8_init_27 ?_
  refine go_aload_n 0 dX8_init_30 rfl rfl ?_
  refine go_bipush dX8_init_31 (by decide) ?_
  refine go_nI (N := N) (M := 10) hN rfl (by decide) ⟨Nat.le_of_ble_eq_true rfl, Nat.le_of_ble_eq_true rfl⟩ dX8_init_33 ?_
  refine go_pF 5 (i := 5) f_X8_27 rfl rfl rfl (gr_at hc) dX8_init_35 ?_
  refine go_aload_n 0 dX8_init_38 rfl rfl ?_
  refine go_bipush dX8_init_39 (by decide) ?_
  refine go_nI (N := (N + 1)) (M := 10) (sR_len (gr_len hN)) rfl (by decide) ⟨Nat.le_of_ble_eq_true rfl, Nat.le_of_ble_eq_true rfl⟩ dX8_init_41 ?_
  refine go_pF 6 (i := 6) f_X8_31 rfl rfl rfl (gr_at (sR_at (gr_at hc))) dX8_init_43 ?_
  refine go_aload_n 0 dX8_init_46 rfl rfl ?_
  refine go_bipush dX8_init_47 (by decide) ?_
  refine go_nI (N := (N + 2)) (M := 10) (sR_len (gr_len (sR_len (gr_len hN)))) rfl (by decide) ⟨Nat.le_of_ble_eq_true rfl, Nat.le_of_ble_eq_true rfl⟩ dX8_init_49 ?_
  refine go_pF 7 (i := 7) f_X8_34 rfl rfl rfl (gr_at (sR_at (gr_at (sR_at (gr_at hc))))) dX8_init_51 ?_
  refine go_aload_n 0 dX8_init_54 rfl rfl ?_
  refine go_bipush dX8_init_55 (by decide) ?_
  refine go_nI (N := (N + 3)) (M := 10) (sR_len (gr_len (sR_len (gr_len (sR_len (gr_len hN)))))) rfl (by decide) ⟨Nat.le_of_ble_eq_true rfl, Nat.le_of_ble_eq_true rfl⟩ dX8_init_57 ?_
  refine go_pF 8 (i := 8) f_X8_37 rfl rfl rfl (gr_at (sR_at (gr_at (sR_at (gr_at (sR_at (gr_at hc))))))) dX8_init_59 ?_
  refine go_aload_n 0 dX8_init_62 rfl rfl ?_
  refine go_bipush dX8_init_63 (by decide) ?_
  refine go_nI (N := (N + 4)) (M := 10) (sR_len (gr_len (sR_len (gr_len (sR_len (gr_len (sR_len (gr_len hN)))))))) rfl (by decide) ⟨Nat.le_of_ble_eq_true rfl, Nat.le_of_ble_eq_true rfl⟩ dX8_init_65 ?_
  refine go_pF 9 (i := 9) f_X8_40 rfl rfl rfl (gr_at (sR_at (gr_at (sR_at (gr_at (sR_at (gr_at (sR_at (gr_at hc))))))))) dX8_init_67 ?_
  refine go_aload_n 0 dX8_init_70 rfl rfl ?_
  refine go_bipush dX8_init_71 (by decide) ?_
  refine go_nI (N := (N + 5)) (M := 6) (sR_len (gr_len (sR_len (gr_len (sR_len (gr_len (sR_len (gr_len (sR_len (gr_len hN)))))))))) rfl (by decide) ⟨Nat.le_of_ble_eq_true rfl, Nat.le_of_ble_eq_true rfl⟩ dX8_init_73 ?_
  refine go_pF 10 (i := 10) f_X8_43 rfl rfl rfl (gr_at (sR_at (gr_at (sR_at (gr_at (sR_at (gr_at (sR_at (gr_at (sR_at (gr_at hc))))))))))) dX8_init_75 ?_
  refine go_aload_n 0 dX8_init_78 rfl rfl ?_
  refine go_bipush dX8_init_79 (by decide) ?_
  refine go_nI (N := (N + 6)) (M := 6) (sR_len (gr_len (sR_len (gr_len (sR_len (gr_len (sR_len (gr_len (sR_len (gr_len (sR_len (gr_len hN)))))))))))) rfl (by decide) ⟨Nat.le_of_ble_eq_true rfl, Nat.le_of_ble_eq_true rfl⟩ dX8_init_81 ?_
  refine go_pF 11 (i := 11) f_X8_46 rfl rfl rfl (gr_at (sR_at (gr_at (sR_at (gr_at (sR_at (gr_at (sR_at (gr_at (sR_at (gr_at (sR_at (gr_at hc))))))))))))) dX8_init_83 ?_
  refine go_aload_n 0 dX8_init_86 rfl rfl ?_
  refine go_bipush dX8_init_87 (by decide) ?_
  refine go_nI (N := (N + 7)) (M := 6) (sR_len (gr_len (sR_len (gr_len (sR_len (gr_len (sR_len (gr_len (sR_len (gr_len (sR_len (gr_len (sR_len (gr_len hN)))))))))))))) rfl (by decide) ⟨Nat.le_of_ble_eq_true rfl, Nat.le_of_ble_eq_true rfl⟩ dX8_init_89 ?_
  refine go_pF 12 (i := 12) f_X8_49 rfl rfl rfl (gr_at (sR_at (gr_at (sR_at (gr_at (sR_at (gr_at (sR_at (gr_at (sR_at (gr_at (sR_at (gr_at (sR_at (gr_at hc))))))))))))))) dX8_init_91 ?_
  refine go_aload_n 0 dX8_init_94 rfl rfl ?_
  refine go_bipush dX8_init_95 (by decide) ?_
  refine go_nI (N := (N + 8)) (M := 6) (sR_len (gr_len (sR_len (gr_len (sR_len (gr_len (sR_len (gr_len (sR_len (gr_len (sR_len (gr_len (sR_len (gr_len (sR_len (gr_len hN)))))))))))))))) rfl (by decide) ⟨Nat.le_of_ble_eq_true rfl, Nat.le_of_ble_eq_true rfl⟩ dX8_init_97 ?_
  refine go_pF 13 (i := 13) f_X8_52 rfl rfl rfl (gr_at (sR_at (gr_at (sR_at (gr_at (sR_at (gr_at (sR_at (gr_at (sR_at (gr_at (sR_at (gr_at (sR_at (gr_at (sR_at (gr_at hc))))))))))))))))) dX8_init_99 ?_
  refine go_aload_n 0 dX8_init_102 rfl rfl ?_
  refine go_iconst dX8_init_103 ?_
  refine go_nI (N := (N + 9)) (M := 4) (sR_len (gr_len (sR_len (gr_len (sR_len (gr_len (sR_len (gr_len (sR_len (gr_len (sR_len (gr_len (sR_len (gr_len (sR_len (gr_len (sR_len (gr_len hN)))))))))))))))))) rfl (by decide) ⟨Nat.le_of_ble_eq_true rfl, Nat.le_of_ble_eq_true rfl⟩ dX8_init_104 ?_
  refine go_pF 14 (i := 14) f_X8_55 rfl rfl rfl (gr_at (sR_at (gr_at (sR_at (gr_at (sR_at (gr_at (sR_at (gr_at (sR_at (gr_at (sR_at (gr_at (sR_at (gr_at (sR_at (gr_at (sR_at (gr_at hc))))))))))))))))))) dX8_init_106 ?_
  refine go_aload_n 0 dX8_init_109 rfl rfl ?_
  refine go_iconst dX8_init_110 ?_
  refine go_nI (N := (N + 10)) (M := 4) (sR_len (gr_len (sR_len (gr_len (sR_len (gr_len (sR_len (gr_len (sR_len (gr_len (sR_len (gr_len (sR_len (gr_len (sR_len (gr_len (sR_len (gr_len (sR_len (gr_len hN)))))))))))))))))))) rfl (by decide) ⟨Nat.le_of_ble_eq_true rfl, Nat.le_of_ble_eq_true rfl⟩ dX8_init_111 ?_
  refine go_pF 15 (i := 15) f_X8_58 rfl rfl rfl (gr_at (sR_at (gr_at (sR_at (gr_at (sR_at (gr_at (sR_at (gr_at (sR_at (gr_at (sR_at (gr_at (sR_at (gr_at (sR_at (gr_at (sR_at (gr_at (sR_at (gr_at hc))))))))))))))))))))) dX8_init_113 ?_
  refine go_aload_n 0 dX8_init_116 rfl rfl ?_
  refine go_iconst dX8_init_117 ?_
  refine go_nI (N := (N + 11)) (M := 4) (sR_len (gr_len (sR_len (gr_len (sR_len (gr_len (sR_len (gr_len (sR_len (gr_len (sR_len (gr_len (sR_len (gr_len (sR_len (gr_len (sR_len (gr_len (sR_len (gr_len (sR_len (gr_len hN)))))))))))))))))))))) rfl (by decide) ⟨Nat.le_of_ble_eq_true rfl, Nat.le_of_ble_eq_true rfl⟩ dX8_init_118 ?_
  refine go_pF 16 (i := 16) f_X8_61 rfl rfl rfl (gr_at (sR_at (gr_at (sR_at (gr_at (sR_at (gr_at (sR_at (gr_at (sR_at (gr_at (sR_at (gr_at (sR_at (gr_at (sR_at (gr_at (sR_at (gr_at (sR_at (gr_at (sR_at (gr_at hc))))))))))))))))))))))) dX8_init_120 ?_
  exact go_return (Nat.le_of_ble_eq_true rfl) (Nat.le_of_ble_eq_true rfl) rfl dX8_init_123 ⟨rfl, rfl⟩
def g_X7_init (G : Sh) (c N : Nat) : Sh := (sR (gr (sR (gr (sR (mG G N 4) c 0 N) (N + 5) (100, 4)) c 1 (N + 5)) (N + 6) (100, 4)) c 2 (N + 6))
def d_X7_init (D : Dm) (c N : Nat) : Dm := (upd2 (upd2 (upd2 (upd2 (newD (newD (mD D N 4) (N + 5)) (N + 6)) (N + 6) 0 (-1)) (N + 6) 1 (-1)) (N + 6) 2 (-1)) (N + 6) 3 (-1))
theorem gl_X7_init {G : Sh} {c N : Nat} (hN : G.1.length = N) : (g_X7_init G c N).1.length = N + 7 := (sR_len (gr_len (sR_len (gr_len (sR_len (mG_len hN))))))
theorem ga_X7_init {G : Sh} {c N x : Nat} {t : Tg} (hN : G.1.length = N) (hc : G.1[x]? = some t) : (g_X7_init G c N).1[x]? = some t := (sR_at (gr_at (sR_at (gr_at (sR_at (mG_at hN hc))))))
set_option maxHeartbeats 4000000 in
set_option maxRecDepth 20000 in
theorem n_X7_init {l : Launch} {E : Ev} {G : Sh} {D : Dm} {c N : Nat} (hc : G.1[c]? = some (7, 3)) (hN : G.1.length = N) : Ct l E MX7_init 2 7 252 [vR E c] G D (fun _ G' D' => G' = g_X7_init G c N ∧ D' = d_X7_init D c N) := by
  refine Ct.of (by decide) (Nat.le_of_ble_eq_true rfl) ?_
  show Go l E cX7_init 1 RX7 (rmO MX7_init 7 252) (PfM MX7_init) (QfM E 2 7 252 _) 0 0 0 [(0, vR E c)] [] G D
  refine go_aload_n 0 dX7_init_0 rfl rfl ?_
  refine go_oI oi_X7 ⟨Nat.le_of_ble_eq_true rfl, Nat.le_of_ble_eq_true rfl⟩ (Nat.le_of_ble_eq_true rfl) dX7_init_1 ?_
  refine go_aload_n 0 dX7_init_4 rfl rfl ?_
  refine go_iconst dX7_init_5 ?_
  refine go_bipush dX7_init_6 (by decide) ?_
  refine go_nM (N := N) hN cl_X7_9 ⟨Nat.le_of_ble_eq_true rfl, Nat.le_of_ble_eq_true rfl⟩ dX7_init_8 ?_
  refine go_pF 0 (i := 0) f_X7_11 rfl rfl rfl (mG_at hN hc) dX7_init_12 ?_
  refine go_aload_n 0 dX7_init_15 rfl rfl ?_
  refine go_iconst dX7_init_16 ?_
  refine go_nI (N := (N + 5)) (M := 4) (sR_len (mG_len hN)) rfl (by decide) ⟨Nat.le_of_ble_eq_true rfl, Nat.le_of_ble_eq_true rfl⟩ dX7_init_17 ?_
  refine go_pF 1 (i := 1) f_X7_16 rfl rfl rfl (gr_at (sR_at (mG_at hN hc))) dX7_init_19 ?_
  refine go_aload_n 0 dX7_init_22 rfl rfl ?_
  refine go_iconst dX7_init_23 ?_
  refine go_nI (N := (N + 6)) (M := 4) (sR_len (gr_len (sR_len (mG_len hN)))) rfl (by decide) ⟨Nat.le_of_ble_eq_true rfl, Nat.le_of_ble_eq_true rfl⟩ dX7_init_24 ?_
  refine go_dup rfl dX7_init_26 ?_
  refine go_iconst dX7_init_27 ?_
  refine go_iconst dX7_init_28 ?_
  refine go_iastore (b := 4) (gr_nw (sR_len (gr_len (sR_len (mG_len hN))))) rfl (by decide) (by decide) (by decide) dX7_init_29 ?_
  refine go_dup rfl dX7_init_30 ?_
  refine go_iconst dX7_init_31 ?_
  refine go_iconst dX7_init_32 ?_
  refine go_iastore (b := 4) (gr_nw (sR_len (gr_len (sR_len (mG_len hN))))) rfl (by decide) (by decide) (by decide) dX7_init_33 ?_
  refine go_dup rfl dX7_init_34 ?_
  refine go_iconst dX7_init_35 ?_
  refine go_iconst dX7_init_36 ?_
  refine go_iastore (b := 4) (gr_nw (sR_len (gr_len (sR_len (mG_len hN))))) rfl (by decide) (by decide) (by decide) dX7_init_37 ?_
  refine go_dup rfl dX7_init_38 ?_
  refine go_iconst dX7_init_39 ?_
  refine go_iconst dX7_init_40 ?_
  refine go_iastore (b := 4) (gr_nw (sR_len (gr_len (sR_len (mG_len hN))))) rfl (by decide) (by decide) (by decide) dX7_init_41 ?_
  refine go_pF 2 (i := 2) f_X7_20 rfl rfl rfl (gr_at (sR_at (gr_at (sR_at (mG_at hN hc))))) dX7_init_42 ?_
  exact go_return (Nat.le_of_ble_eq_true rfl) (Nat.le_of_ble_eq_true rfl) rfl dX7_init_45 ⟨rfl, rfl⟩
def g_X6_init (G : Sh) (c N : Nat) : Sh := (sR (gr (sR (gr (sR (gr (sR (gr (sR (g_X8_init (gr (sR (gr G N (102, 600)) c 0 N) (N + 1) (8, 17)) (N + 1) (N + 2)) c 2 (N + 1)) (N + 14) (101, 10)) c 11 (N + 14)) (N + 15) (101, 4)) c 12 (N + 15)) (N + 16) (100, 6)) c 13 (N + 16)) (N + 17) (100, 6)) c 14 (N + 17))
def d_X6_init (D : Dm) (c N : Nat) : Dm := (newD (newD (newD (newD (upd2 (upd2 (upd2 (upd2 (upd2 (upd2 (upd2 (upd2 (d_X8_init (newD (upd2 (newD D N) c 1 0) (N + 1)) (N + 1) (N + 2)) c 3 0) c 4 (-1)) c 5 0) c 6 0) c 7 0) c 8 0) c 9 0) c 10 0) (N + 14)) (N + 15)) (N + 16)) (N + 17))
theorem gl_X6_init {G : Sh} {c N : Nat} (hN : G.1.length = N) : (g_X6_init G c N).1.length = N + 18 := (sR_len (gr_len (sR_len (gr_len (sR_len (gr_len (sR_len (gr_len (sR_len (gl_X8_init (gr_len (sR_len (gr_len hN)))))))))))))
theorem ga_X6_init {G : Sh} {c N x : Nat} {t : Tg} (hN : G.1.length = N) (hc : G.1[x]? = some t) : (g_X6_init G c N).1[x]? = some t := (sR_at (gr_at (sR_at (gr_at (sR_at (gr_at (sR_at (gr_at (sR_at (ga_X8_init (gr_len (sR_len (gr_len hN))) (gr_at (sR_at (gr_at hc)))))))))))))
set_option maxHeartbeats 4000000 in
set_option maxRecDepth 20000 in
theorem n_X6_init {l : Launch} {E : Ev} {G : Sh} {D : Dm} {c N : Nat} (hc : G.1[c]? = some (6, 15)) (hN : G.1.length = N) : Ct l E MX6_init 2 18 729 [vR E c] G D (fun _ G' D' => G' = g_X6_init G c N ∧ D' = d_X6_init D c N) := by
  refine Ct.of (by decide) (Nat.le_of_ble_eq_true rfl) ?_
  show Go l E cX6_init 1 RX6 (rmO MX6_init 18 729) (PfM MX6_init) (QfM E 2 18 729 _) 0 0 0 [(0, vR E c)] [] G D
  refine go_aload_n 0 dX6_init_0 rfl rfl ?_
  refine go_oI oi_X6 ⟨Nat.le_of_ble_eq_true rfl, Nat.le_of_ble_eq_true rfl⟩ (Nat.le_of_ble_eq_true rfl) dX6_init_1 ?_
  refine go_aload_n 0 dX6_init_4 rfl rfl ?_
  refine go_sipush dX6_init_5 (by decide) ?_
  refine go_nB (N := N) (M := 600) hN rfl (by decide) ⟨Nat.le_of_ble_eq_true rfl, Nat.le_of_ble_eq_true rfl⟩ dX6_init_8 ?_
  refine go_pF 0 (i := 0) f_X6_9 rfl rfl rfl (gr_at hc) dX6_init_10 ?_
  refine go_aload_n 0 dX6_init_13 rfl rfl ?_
  refine go_iconst dX6_init_14 ?_
  refine go_putI 1 (i := 1) (by decide) f_X6_15 rfl (sR_at (gr_at hc)) dX6_init_15 ?_
  refine go_aload_n 0 dX6_init_18 rfl rfl ?_
  refine go_nO (N := (N + 1)) (sR_len (gr_len hN)) nw_X6_19 ⟨Nat.le_of_ble_eq_true rfl, Nat.le_of_ble_eq_true rfl⟩ dX6_init_19 ?_
  refine go_dup rfl dX6_init_22 ?_
  refine go_callN (M := MX8_init) (mc := 12) (ms := 86) (c := (N + 1)) (as := []) (rest := [vR E (N + 1), vR E c]) mi_X6_21 ⟨Nat.le_of_ble_eq_true rfl, Nat.le_of_ble_eq_true rfl⟩ ⟨Nat.le_of_ble_eq_true rfl, Nat.le_of_ble_eq_true rfl⟩ rfl rfl (Nat.le_of_ble_eq_true rfl) dX6_init_23 (n_X8_init (N := (N + 2)) (gr_nw (sR_len (gr_len hN))) (gr_len (sR_len (gr_len hN)))) ?_
  rintro r G' D' ⟨rfl, rfl⟩
  refine go_pF 2 (i := 2) f_X6_22 rfl rfl rfl (ga_X8_init (gr_len (sR_len (gr_len hN))) (gr_at (sR_at (gr_at hc)))) dX6_init_26 ?_
  refine go_aload_n 0 dX6_init_29 rfl rfl ?_
  refine go_iconst dX6_init_30 ?_
  refine go_putI 3 (i := 3) (by decide) f_X6_26 rfl (sR_at (ga_X8_init (gr_len (sR_len (gr_len hN))) (gr_at (sR_at (gr_at hc))))) dX6_init_31 ?_
  refine go_aload_n 0 dX6_init_34 rfl rfl ?_
  refine go_iconst dX6_init_35 ?_
  refine go_putI 4 (i := 4) (by decide) f_X6_29 rfl (sR_at (ga_X8_init (gr_len (sR_len (gr_len hN))) (gr_at (sR_at (gr_at hc))))) dX6_init_36 ?_
  refine go_aload_n 0 dX6_init_39 rfl rfl ?_
  refine go_iconst dX6_init_40 ?_
  refine go_putI 5 (i := 5) (by decide) f_X6_32 rfl (sR_at (ga_X8_init (gr_len (sR_len (gr_len hN))) (gr_at (sR_at (gr_at hc))))) dX6_init_41 ?_
  refine go_aload_n 0 dX6_init_44 rfl rfl ?_
  refine go_iconst dX6_init_45 ?_
  refine go_putI 6 (i := 6) (by decide) f_X6_35 rfl (sR_at (ga_X8_init (gr_len (sR_len (gr_len hN))) (gr_at (sR_at (gr_at hc))))) dX6_init_46 ?_
  refine go_aload_n 0 dX6_init_49 rfl rfl ?_
  refine go_iconst dX6_init_50 ?_
  refine go_putI 7 (i := 7) (by decide) f_X6_38 rfl (sR_at (ga_X8_init (gr_len (sR_len (gr_len hN))) (gr_at (sR_at (gr_at hc))))) dX6_init_51 ?_
  refine go_aload_n 0 dX6_init_54 rfl rfl ?_
  refine go_iconst dX6_init_55 ?_
  refine go_putI 8 (i := 8) (by decide) f_X6_41 rfl (sR_at (ga_X8_init (gr_len (sR_len (gr_len hN))) (gr_at (sR_at (gr_at hc))))) dX6_init_56 ?_
  refine go_aload_n 0 dX6_init_59 rfl rfl ?_
  refine go_iconst dX6_init_60 ?_
  refine go_putI 9 (i := 9) (by decide) f_X6_44 rfl (sR_at (ga_X8_init (gr_len (sR_len (gr_len hN))) (gr_at (sR_at (gr_at hc))))) dX6_init_61 ?_
  refine go_aload_n 0 dX6_init_64 rfl rfl ?_
  refine go_lconst (x := 0) dX6_init_65 rfl ?_
  refine go_putJ 10 (i := 10) (by decide) f_X6_47 rfl (sR_at (ga_X8_init (gr_len (sR_len (gr_len hN))) (gr_at (sR_at (gr_at hc))))) dX6_init_66 ?_
  refine go_aload_n 0 dX6_init_69 rfl rfl ?_
  refine go_bipush dX6_init_70 (by decide) ?_
  refine go_nJ (N := (N + 14)) (M := 10) (sR_len (gl_X8_init (gr_len (sR_len (gr_len hN))))) rfl (by decide) ⟨Nat.le_of_ble_eq_true rfl, Nat.le_of_ble_eq_true rfl⟩ dX6_init_72 ?_
  refine go_pF 11 (i := 11) f_X6_51 rfl rfl rfl (gr_at (sR_at (ga_X8_init (gr_len (sR_len (gr_len hN))) (gr_at (sR_at (gr_at hc)))))) dX6_init_74 ?_
  refine go_aload_n 0 dX6_init_77 rfl rfl ?_
  refine go_iconst dX6_init_78 ?_
  refine go_nJ (N := (N + 15)) (M := 4) (sR_len (gr_len (sR_len (gl_X8_init (gr_len (sR_len (gr_len hN))))))) rfl (by decide) ⟨Nat.le_of_ble_eq_true rfl, Nat.le_of_ble_eq_true rfl⟩ dX6_init_79 ?_
  refine go_pF 12 (i := 12) f_X6_55 rfl rfl rfl (gr_at (sR_at (gr_at (sR_at (ga_X8_init (gr_len (sR_len (gr_len hN))) (gr_at (sR_at (gr_at hc)))))))) dX6_init_81 ?_
  refine go_aload_n 0 dX6_init_84 rfl rfl ?_
  refine go_bipush dX6_init_85 (by decide) ?_
  refine go_nI (N := (N + 16)) (M := 6) (sR_len (gr_len (sR_len (gr_len (sR_len (gl_X8_init (gr_len (sR_len (gr_len hN))))))))) rfl (by decide) ⟨Nat.le_of_ble_eq_true rfl, Nat.le_of_ble_eq_true rfl⟩ dX6_init_87 ?_
  refine go_pF 13 (i := 13) f_X6_58 rfl rfl rfl (gr_at (sR_at (gr_at (sR_at (gr_at (sR_at (ga_X8_init (gr_len (sR_len (gr_len hN))) (gr_at (sR_at (gr_at hc)))))))))) dX6_init_89 ?_
  refine go_aload_n 0 dX6_init_92 rfl rfl ?_
  refine go_bipush dX6_init_93 (by decide) ?_
  refine go_nI (N := (N + 17)) (M := 6) (sR_len (gr_len (sR_len (gr_len (sR_len (gr_len (sR_len (gl_X8_init (gr_len (sR_len (gr_len hN))))))))))) rfl (by decide) ⟨Nat.le_of_ble_eq_true rfl, Nat.le_of_ble_eq_true rfl⟩ dX6_init_95 ?_
  refine go_pF 14 (i := 14) f_X6_62 rfl rfl rfl (gr_at (sR_at (gr_at (sR_at (gr_at (sR_at (gr_at (sR_at (ga_X8_init (gr_len (sR_len (gr_len hN))) (gr_at (sR_at (gr_at hc)))))))))))) dX6_init_97 ?_
  exact go_return (Nat.le_of_ble_eq_true rfl) (Nat.le_of_ble_eq_true rfl) rfl dX6_init_100 ⟨rfl, rfl⟩
def g_X5_init (G : Sh) (c p N : Nat) : Sh := (sR (sR (gr (sR (gr (sR (gr (sR (gr (sR (gr (sR (gr G N (101, 64)) c 1 N) (N + 1) (100, 64)) c 2 (N + 1)) (N + 2) (100, 640)) c 6 (N + 2)) (N + 3) (100, 100)) c 7 (N + 3)) (N + 4) (100, 0)) c 8 (N + 4)) (N + 5) (100, 0)) c 9 (N + 5)) c 0 p)
def d_X5_init (D : Dm) (c N : Nat) : Dm := (newD (newD (newD (newD (upd2 (upd2 (upd2 (newD (newD D N) (N + 1)) c 3 0) c 4 0) c 5 0) (N + 2)) (N + 3)) (N + 4)) (N + 5))
theorem gl_X5_init {G : Sh} {c p N : Nat} (hN : G.1.length = N) : (g_X5_init G c p N).1.length = N + 6 := (sR_len (sR_len (gr_len (sR_len (gr_len (sR_len (gr_len (sR_len (gr_len (sR_len (gr_len (sR_len (gr_len hN)))))))))))))
theorem ga_X5_init {G : Sh} {c p N x : Nat} {t : Tg} (hN : G.1.length = N) (hc : G.1[x]? = some t) : (g_X5_init G c p N).1[x]? = some t := (sR_at (sR_at (gr_at (sR_at (gr_at (sR_at (gr_at (sR_at (gr_at (sR_at (gr_at (sR_at (gr_at hc)))))))))))))
set_option maxHeartbeats 4000000 in
set_option maxRecDepth 20000 in
theorem n_X5_init {l : Launch} {E : Ev} {G : Sh} {D : Dm} {c p N : Nat} (hc : G.1[c]? = some (5, 10)) (hN : G.1.length = N) : Ct l E MX5_init 2 6 868 [vR E c, vR E p] G D (fun _ G' D' => G' = g_X5_init G c p N ∧ D' = d_X5_init D c N) := by
  refine Ct.of (by decide) (Nat.le_of_ble_eq_true rfl) ?_
  show Go l E cX5_init 2 RX5 (rmO MX5_init 6 868) (PfM MX5_init) (QfM E 2 6 868 _) 0 0 0 [(0, vR E c), (1, vR E p)] [] G D
  refine go_aload_n 0 dX5_init_0 rfl rfl ?_
  refine go_oI oi_X5 ⟨Nat.le_of_ble_eq_true rfl, Nat.le_of_ble_eq_true rfl⟩ (Nat.le_of_ble_eq_true rfl) dX5_init_1 ?_
  refine go_aload_n 0 dX5_init_4 rfl rfl ?_
  refine go_bipush dX5_init_5 (by decide) ?_
  refine go_nJ (N := N) (M := 64) hN rfl (by decide) ⟨Nat.le_of_ble_eq_true rfl, Nat.le_of_ble_eq_true rfl⟩ dX5_init_7 ?_
  refine go_pF 1 (i := 1) f_X5_9 rfl rfl rfl (gr_at hc) dX5_init_9 ?_
  refine go_aload_n 0 dX5_init_12 rfl rfl ?_
  refine go_bipush dX5_init_13 (by decide) ?_
  refine go_nI (N := (N + 1)) (M := 64) (sR_len (gr_len hN)) rfl (by decide) ⟨Nat.le_of_ble_eq_true rfl, Nat.le_of_ble_eq_true rfl⟩ dX5_init_15 ?_
  refine go_pF 2 (i := 2) f_X5_15 rfl rfl rfl (gr_at (sR_at (gr_at hc))) dX5_init_17 ?_
  refine go_aload_n 0 dX5_init_20 rfl rfl ?_
  refine go_lconst (x := 0) dX5_init_21 rfl ?_
  refine go_putJ 3 (i := 3) (by decide) f_X5_19 rfl (sR_at (gr_at (sR_at (gr_at hc)))) dX5_init_22 ?_
  refine go_aload_n 0 dX5_init_25 rfl rfl ?_
  refine go_lconst (x := 0) dX5_init_26 rfl ?_
  refine go_putJ 4 (i := 4) (by decide) f_X5_23 rfl (sR_at (gr_at (sR_at (gr_at hc)))) dX5_init_27 ?_
  refine go_aload_n 0 dX5_init_30 rfl rfl ?_
  refine go_iconst dX5_init_31 ?_
  refine go_putZ 5 (i := 5) (by decide) f_X5_26 rfl (sR_at (gr_at (sR_at (gr_at hc)))) dX5_init_32 ?_
  refine go_aload_n 0 dX5_init_35 rfl rfl ?_
  refine go_sipush dX5_init_36 (by decide) ?_
  refine go_nI (N := (N + 2)) (M := 640) (sR_len (gr_len (sR_len (gr_len hN)))) rfl (by decide) ⟨Nat.le_of_ble_eq_true rfl, Nat.le_of_ble_eq_true rfl⟩ dX5_init_39 ?_
  refine go_pF 6 (i := 6) f_X5_30 rfl rfl rfl (gr_at (sR_at (gr_at (sR_at (gr_at hc))))) dX5_init_41 ?_
  refine go_aload_n 0 dX5_init_44 rfl rfl ?_
  refine go_bipush dX5_init_45 (by decide) ?_
  refine go_nI (N := (N + 3)) (M := 100) (sR_len (gr_len (sR_len (gr_len (sR_len (gr_len hN)))))) rfl (by decide) ⟨Nat.le_of_ble_eq_true rfl, Nat.le_of_ble_eq_true rfl⟩ dX5_init_47 ?_
  refine go_pF 7 (i := 7) f_X5_33 rfl rfl rfl (gr_at (sR_at (gr_at (sR_at (gr_at (sR_at (gr_at hc))))))) dX5_init_49 ?_
  refine go_aload_n 0 dX5_init_52 rfl rfl ?_
  refine go_iconst dX5_init_53 ?_
  refine go_nI (N := (N + 4)) (M := 0) (sR_len (gr_len (sR_len (gr_len (sR_len (gr_len (sR_len (gr_len hN)))))))) rfl (by decide) ⟨Nat.le_of_ble_eq_true rfl, Nat.le_of_ble_eq_true rfl⟩ dX5_init_54 ?_
  refine go_pR 8 (i := 8) f_X5_36 rfl (gr_at (sR_at (gr_at (sR_at (gr_at (sR_at (gr_at (sR_at (gr_at hc))))))))) dX5_init_56 ?_
  refine go_aload_n 0 dX5_init_59 rfl rfl ?_
  refine go_iconst dX5_init_60 ?_
  refine go_nI (N := (N + 5)) (M := 0) (sR_len (gr_len (sR_len (gr_len (sR_len (gr_len (sR_len (gr_len (sR_len (gr_len hN)))))))))) rfl (by decide) ⟨Nat.le_of_ble_eq_true rfl, Nat.le_of_ble_eq_true rfl⟩ dX5_init_61 ?_
  refine go_pR 9 (i := 9) f_X5_39 rfl (gr_at (sR_at (gr_at (sR_at (gr_at (sR_at (gr_at (sR_at (gr_at (sR_at (gr_at hc))))))))))) dX5_init_63 ?_
  refine go_aload_n 0 dX5_init_66 rfl rfl ?_
  refine go_aload_n 1 dX5_init_67 rfl rfl ?_
  refine go_pF 0 (i := 0) f_X5_42 rfl rfl rfl (sR_at (gr_at (sR_at (gr_at (sR_at (gr_at (sR_at (gr_at (sR_at (gr_at (sR_at (gr_at hc)))))))))))) dX5_init_68 ?_
  exact go_return (Nat.le_of_ble_eq_true rfl) (Nat.le_of_ble_eq_true rfl) rfl dX5_init_71 ⟨rfl, rfl⟩
def g_X1_init (G : Sh) (c p q N : Nat) : Sh := (sR (sR (sR (gr (sR (gr (sR (gr G N (100, 252)) c 2 N) (N + 1) (101, 252)) c 3 (N + 1)) (N + 2) (101, 252)) c 4 (N + 2)) c 0 p) c 1 q)
def d_X1_init (D : Dm) (c N : Nat) : Dm := (upd2 (upd2 (upd2 (newD (newD (newD D N) (N + 1)) (N + 2)) c 5 0) c 6 0) c 7 0)
theorem gl_X1_init {G : Sh} {c p q N : Nat} (hN : G.1.length = N) : (g_X1_init G c p q N).1.length = N + 3 := (sR_len (sR_len (sR_len (gr_len (sR_len (gr_len (sR_len (gr_len hN))))))))
theorem ga_X1_init {G : Sh} {c p q N x : Nat} {t : Tg} (hN : G.1.length = N) (hc : G.1[x]? = some t) : (g_X1_init G c p q N).1[x]? = some t := (sR_at (sR_at (sR_at (gr_at (sR_at (gr_at (sR_at (gr_at hc))))))))
set_option maxHeartbeats 4000000 in
set_option maxRecDepth 20000 in
theorem n_X1_init {l : Launch} {E : Ev} {G : Sh} {D : Dm} {c p q N : Nat} (hc : G.1[c]? = some (1, 8)) (hN : G.1.length = N) : Ct l E MX1_init 2 3 756 [vR E c, vR E p, vR E q] G D (fun _ G' D' => G' = g_X1_init G c p q N ∧ D' = d_X1_init D c N) := by
  refine Ct.of (by decide) (Nat.le_of_ble_eq_true rfl) ?_
  show Go l E cX1_init 3 RX1 (rmO MX1_init 3 756) (PfM MX1_init) (QfM E 2 3 756 _) 0 0 0 [(0, vR E c), (1, vR E p), (2, vR E q)] [] G D
  refine go_aload_n 0 dX1_init_0 rfl rfl ?_
  refine go_oI oi_X1 ⟨Nat.le_of_ble_eq_true rfl, Nat.le_of_ble_eq_true rfl⟩ (Nat.le_of_ble_eq_true rfl) dX1_init_1 ?_
  refine go_aload_n 0 dX1_init_4 rfl rfl ?_
  refine go_sipush dX1_init_5 (by decide) ?_
  refine go_nI (N := N) (M := 252) hN rfl (by decide) ⟨Nat.le_of_ble_eq_true rfl, Nat.le_of_ble_eq_true rfl⟩ dX1_init_8 ?_
  refine go_pF 2 (i := 2) f_X1_11 rfl rfl rfl (gr_at hc) dX1_init_10 ?_
  refine go_aload_n 0 dX1_init_13 rfl rfl ?_
  refine go_sipush dX1_init_14 (by decide) ?_
  refine go_nJ (N := (N + 1)) (M := 252) (sR_len (gr_len hN)) rfl (by decide) ⟨Nat.le_of_ble_eq_true rfl, Nat.le_of_ble_eq_true rfl⟩ dX1_init_17 ?_
  refine go_pF 3 (i := 3) f_X1_15 rfl rfl rfl (gr_at (sR_at (gr_at hc))) dX1_init_19 ?_
  refine go_aload_n 0 dX1_init_22 rfl rfl ?_
  refine go_sipush dX1_init_23 (by decide) ?_
  refine go_nJ (N := (N + 2)) (M := 252) (sR_len (gr_len (sR_len (gr_len hN)))) rfl (by decide) ⟨Nat.le_of_ble_eq_true rfl, Nat.le_of_ble_eq_true rfl⟩ dX1_init_26 ?_
  refine go_pF 4 (i := 4) f_X1_19 rfl rfl rfl (gr_at (sR_at (gr_at (sR_at (gr_at hc))))) dX1_init_28 ?_
  refine go_aload_n 0 dX1_init_31 rfl rfl ?_
  refine go_iconst dX1_init_32 ?_
  refine go_putI 5 (i := 5) (by decide) f_X1_22 rfl (sR_at (gr_at (sR_at (gr_at (sR_at (gr_at hc)))))) dX1_init_33 ?_
  refine go_aload_n 0 dX1_init_36 rfl rfl ?_
  refine go_iconst dX1_init_37 ?_
  refine go_putI 6 (i := 6) (by decide) f_X1_26 rfl (sR_at (gr_at (sR_at (gr_at (sR_at (gr_at hc)))))) dX1_init_38 ?_
  refine go_aload_n 0 dX1_init_41 rfl rfl ?_
  refine go_lconst (x := 0) dX1_init_42 rfl ?_
  refine go_putJ 7 (i := 7) (by decide) f_X1_29 rfl (sR_at (gr_at (sR_at (gr_at (sR_at (gr_at hc)))))) dX1_init_43 ?_
  refine go_aload_n 0 dX1_init_46 rfl rfl ?_
  refine go_aload_n 1 dX1_init_47 rfl rfl ?_
  refine go_pF 0 (i := 0) f_X1_33 rfl rfl rfl (sR_at (gr_at (sR_at (gr_at (sR_at (gr_at hc)))))) dX1_init_48 ?_
  refine go_aload_n 0 dX1_init_51 rfl rfl ?_
  refine go_aload_n 2 dX1_init_52 rfl rfl ?_
  refine go_pF 1 (i := 1) f_X1_37 rfl rfl rfl (sR_at (sR_at (gr_at (sR_at (gr_at (sR_at (gr_at hc))))))) dX1_init_53 ?_
  exact go_return (Nat.le_of_ble_eq_true rfl) (Nat.le_of_ble_eq_true rfl) rfl dX1_init_56 ⟨rfl, rfl⟩
def g_X0_init (G : Sh) (c p q N : Nat) : Sh := (sR (sR (sR (gr (sR (gr G N (100, 64)) c 2 N) (N + 1) (100, 64)) c 3 (N + 1)) c 0 p) c 1 q)
def d_X0_init (D : Dm) (c N : Nat) : Dm := (newD (newD D N) (N + 1))
theorem gl_X0_init {G : Sh} {c p q N : Nat} (hN : G.1.length = N) : (g_X0_init G c p q N).1.length = N + 2 := (sR_len (sR_len (sR_len (gr_len (sR_len (gr_len hN))))))
theorem ga_X0_init {G : Sh} {c p q N x : Nat} {t : Tg} (hN : G.1.length = N) (hc : G.1[x]? = some t) : (g_X0_init G c p q N).1[x]? = some t := (sR_at (sR_at (sR_at (gr_at (sR_at (gr_at hc))))))
set_option maxHeartbeats 4000000 in
set_option maxRecDepth 20000 in
theorem n_X0_init {l : Launch} {E : Ev} {G : Sh} {D : Dm} {c p q N : Nat} (hc : G.1[c]? = some (0, 4)) (hN : G.1.length = N) : Ct l E MX0_init 2 2 128 [vR E c, vR E p, vR E q] G D (fun _ G' D' => G' = g_X0_init G c p q N ∧ D' = d_X0_init D c N) := by
  refine Ct.of (by decide) (Nat.le_of_ble_eq_true rfl) ?_
  show Go l E cX0_init 3 RX0 (rmO MX0_init 2 128) (PfM MX0_init) (QfM E 2 2 128 _) 0 0 0 [(0, vR E c), (1, vR E p), (2, vR E q)] [] G D
  refine go_aload_n 0 dX0_init_0 rfl rfl ?_
  refine go_oI oi_X0 ⟨Nat.le_of_ble_eq_true rfl, Nat.le_of_ble_eq_true rfl⟩ (Nat.le_of_ble_eq_true rfl) dX0_init_1 ?_
  refine go_aload_n 0 dX0_init_4 rfl rfl ?_
  refine go_bipush dX0_init_5 (by decide) ?_
  refine go_nI (N := N) (M := 64) hN rfl (by decide) ⟨Nat.le_of_ble_eq_true rfl, Nat.le_of_ble_eq_true rfl⟩ dX0_init_7 ?_
  refine go_pF 2 (i := 2) f_X0_9 rfl rfl rfl (gr_at hc) dX0_init_9 ?_
  refine go_aload_n 0 dX0_init_12 rfl rfl ?_
  refine go_bipush dX0_init_13 (by decide) ?_
  refine go_nI (N := (N + 1)) (M := 64) (sR_len (gr_len hN)) rfl (by decide) ⟨Nat.le_of_ble_eq_true rfl, Nat.le_of_ble_eq_true rfl⟩ dX0_init_15 ?_
  refine go_pF 3 (i := 3) f_X0_15 rfl rfl rfl (gr_at (sR_at (gr_at hc))) dX0_init_17 ?_
  refine go_aload_n 0 dX0_init_20 rfl rfl ?_
  refine go_aload_n 1 dX0_init_21 rfl rfl ?_
  refine go_pF 0 (i := 0) f_X0_18 rfl rfl rfl (sR_at (gr_at (sR_at (gr_at hc)))) dX0_init_22 ?_
  refine go_aload_n 0 dX0_init_25 rfl rfl ?_
  refine go_aload_n 2 dX0_init_26 rfl rfl ?_
  refine go_pF 1 (i := 1) f_X0_22 rfl rfl rfl (sR_at (sR_at (gr_at (sR_at (gr_at hc))))) dX0_init_27 ?_
  exact go_return (Nat.le_of_ble_eq_true rfl) (Nat.le_of_ble_eq_true rfl) rfl dX0_init_30 ⟨rfl, rfl⟩
def g_X4_init (G : Sh) (c p q N : Nat) : Sh := (sR (sR (sR (gr (sR (gr (sR (gr G N (100, 3)) c 2 N) (N + 1) (100, 4)) c 3 (N + 1)) (N + 2) (101, 4)) c 4 (N + 2)) c 0 p) c 1 q)
def d_X4_init (D : Dm) (c N : Nat) : Dm := (newD (newD (newD D N) (N + 1)) (N + 2))
theorem gl_X4_init {G : Sh} {c p q N : Nat} (hN : G.1.length = N) : (g_X4_init G c p q N).1.length = N + 3 := (sR_len (sR_len (sR_len (gr_len (sR_len (gr_len (sR_len (gr_len hN))))))))
theorem ga_X4_init {G : Sh} {c p q N x : Nat} {t : Tg} (hN : G.1.length = N) (hc : G.1[x]? = some t) : (g_X4_init G c p q N).1[x]? = some t := (sR_at (sR_at (sR_at (gr_at (sR_at (gr_at (sR_at (gr_at hc))))))))
set_option maxHeartbeats 4000000 in
set_option maxRecDepth 20000 in
theorem n_X4_init {l : Launch} {E : Ev} {G : Sh} {D : Dm} {c p q N : Nat} (hc : G.1[c]? = some (4, 5)) (hN : G.1.length = N) : Ct l E MX4_init 2 3 11 [vR E c, vR E p, vR E q] G D (fun _ G' D' => G' = g_X4_init G c p q N ∧ D' = d_X4_init D c N) := by
  refine Ct.of (by decide) (Nat.le_of_ble_eq_true rfl) ?_
  show Go l E cX4_init 3 RX4 (rmO MX4_init 3 11) (PfM MX4_init) (QfM E 2 3 11 _) 0 0 0 [(0, vR E c), (1, vR E p), (2, vR E q)] [] G D
  refine go_aload_n 0 dX4_init_0 rfl rfl ?_
  refine go_oI oi_X4 ⟨Nat.le_of_ble_eq_true rfl, Nat.le_of_ble_eq_true rfl⟩ (Nat.le_of_ble_eq_true rfl) dX4_init_1 ?_
  refine go_aload_n 0 dX4_init_4 rfl rfl ?_
  refine go_iconst dX4_init_5 ?_
  refine go_nI (N := N) (M := 3) hN rfl (by decide) ⟨Nat.le_of_ble_eq_true rfl, Nat.le_of_ble_eq_true rfl⟩ dX4_init_6 ?_
  refine go_pF 2 (i := 2) f_X4_9 rfl rfl rfl (gr_at hc) dX4_init_8 ?_
  refine go_aload_n 0 dX4_init_11 rfl rfl ?_
  refine go_iconst dX4_init_12 ?_
  refine go_nI (N := (N + 1)) (M := 4) (sR_len (gr_len hN)) rfl (by decide) ⟨Nat.le_of_ble_eq_true rfl, Nat.le_of_ble_eq_true rfl⟩ dX4_init_13 ?_
  refine go_pF 3 (i := 3) f_X4_15 rfl rfl rfl (gr_at (sR_at (gr_at hc))) dX4_init_15 ?_
  refine go_aload_n 0 dX4_init_18 rfl rfl ?_
  refine go_iconst dX4_init_19 ?_
  refine go_nJ (N := (N + 2)) (M := 4) (sR_len (gr_len (sR_len (gr_len hN)))) rfl (by decide) ⟨Nat.le_of_ble_eq_true rfl, Nat.le_of_ble_eq_true rfl⟩ dX4_init_20 ?_
  refine go_pF 4 (i := 4) f_X4_18 rfl rfl rfl (gr_at (sR_at (gr_at (sR_at (gr_at hc))))) dX4_init_22 ?_
  refine go_aload_n 0 dX4_init_25 rfl rfl ?_
  refine go_aload_n 1 dX4_init_26 rfl rfl ?_
  refine go_pF 0 (i := 0) f_X4_22 rfl rfl rfl (sR_at (gr_at (sR_at (gr_at (sR_at (gr_at hc)))))) dX4_init_27 ?_
  refine go_aload_n 0 dX4_init_30 rfl rfl ?_
  refine go_aload_n 2 dX4_init_31 rfl rfl ?_
  refine go_pF 1 (i := 1) f_X4_26 rfl rfl rfl (sR_at (sR_at (gr_at (sR_at (gr_at (sR_at (gr_at hc))))))) dX4_init_32 ?_
  exact go_return (Nat.le_of_ble_eq_true rfl) (Nat.le_of_ble_eq_true rfl) rfl dX4_init_35 ⟨rfl, rfl⟩
def g_X3_init (G : Sh) (c p q N : Nat) : Sh := (sR (sR (sR (gr (sR (gr (sR (gr (sR (gr (sR (gr G N (101, 768)) c 2 N) (N + 1) (101, 768)) c 3 (N + 1)) (N + 2) (100, 8)) c 4 (N + 2)) (N + 3) (100, 3)) c 5 (N + 3)) (N + 4) (100, 8)) c 6 (N + 4)) c 0 p) c 1 q)
def d_X3_init (D : Dm) (c N : Nat) : Dm := (upd2 (newD (newD (newD (newD (newD D N) (N + 1)) (N + 2)) (N + 3)) (N + 4)) c 7 (-1))
theorem gl_X3_init {G : Sh} {c p q N : Nat} (hN : G.1.length = N) : (g_X3_init G c p q N).1.length = N + 5 := (sR_len (sR_len (sR_len (gr_len (sR_len (gr_len (sR_len (gr_len (sR_len (gr_len (sR_len (gr_len hN))))))))))))
theorem ga_X3_init {G : Sh} {c p q N x : Nat} {t : Tg} (hN : G.1.length = N) (hc : G.1[x]? = some t) : (g_X3_init G c p q N).1[x]? = some t := (sR_at (sR_at (sR_at (gr_at (sR_at (gr_at (sR_at (gr_at (sR_at (gr_at (sR_at (gr_at hc))))))))))))
set_option maxHeartbeats 4000000 in
set_option maxRecDepth 20000 in
theorem n_X3_init {l : Launch} {E : Ev} {G : Sh} {D : Dm} {c p q N : Nat} (hc : G.1[c]? = some (3, 8)) (hN : G.1.length = N) : Ct l E MX3_init 2 5 1555 [vR E c, vR E p, vR E q] G D (fun _ G' D' => G' = g_X3_init G c p q N ∧ D' = d_X3_init D c N) := by
  refine Ct.of (by decide) (Nat.le_of_ble_eq_true rfl) ?_
  show Go l E cX3_init 3 RX3 (rmO MX3_init 5 1555) (PfM MX3_init) (QfM E 2 5 1555 _) 0 0 0 [(0, vR E c), (1, vR E p), (2, vR E q)] [] G D
  refine go_aload_n 0 dX3_init_0 rfl rfl ?_
  refine go_oI oi_X3 ⟨Nat.le_of_ble_eq_true rfl, Nat.le_of_ble_eq_true rfl⟩ (Nat.le_of_ble_eq_true rfl) dX3_init_1 ?_
  refine go_aload_n 0 dX3_init_4 rfl rfl ?_
  refine go_sipush dX3_init_5 (by decide) ?_
  refine go_nJ (N := N) (M := 768) hN rfl (by decide) ⟨Nat.le_of_ble_eq_true rfl, Nat.le_of_ble_eq_true rfl⟩ dX3_init_8 ?_
  refine go_pF 2 (i := 2) f_X3_11 rfl rfl rfl (gr_at hc) dX3_init_10 ?_
  refine go_aload_n 0 dX3_init_13 rfl rfl ?_
  refine go_sipush dX3_init_14 (by decide) ?_
  refine go_nJ (N := (N + 1)) (M := 768) (sR_len (gr_len hN)) rfl (by decide) ⟨Nat.le_of_ble_eq_true rfl, Nat.le_of_ble_eq_true rfl⟩ dX3_init_17 ?_
  refine go_pF 3 (i := 3) f_X3_15 rfl rfl rfl (gr_at (sR_at (gr_at hc))) dX3_init_19 ?_
  refine go_aload_n 0 dX3_init_22 rfl rfl ?_
  refine go_bipush dX3_init_23 (by decide) ?_
  refine go_nI (N := (N + 2)) (M := 8) (sR_len (gr_len (sR_len (gr_len hN)))) rfl (by decide) ⟨Nat.le_of_ble_eq_true rfl, Nat.le_of_ble_eq_true rfl⟩ dX3_init_25 ?_
  refine go_pF 4 (i := 4) f_X3_18 rfl rfl rfl (gr_at (sR_at (gr_at (sR_at (gr_at hc))))) dX3_init_27 ?_
  refine go_aload_n 0 dX3_init_30 rfl rfl ?_
  refine go_iconst dX3_init_31 ?_
  refine go_nI (N := (N + 3)) (M := 3) (sR_len (gr_len (sR_len (gr_len (sR_len (gr_len hN)))))) rfl (by decide) ⟨Nat.le_of_ble_eq_true rfl, Nat.le_of_ble_eq_true rfl⟩ dX3_init_32 ?_
  refine go_pF 5 (i := 5) f_X3_22 rfl rfl rfl (gr_at (sR_at (gr_at (sR_at (gr_at (sR_at (gr_at hc))))))) dX3_init_34 ?_
  refine go_aload_n 0 dX3_init_37 rfl rfl ?_
  refine go_bipush dX3_init_38 (by decide) ?_
  refine go_nI (N := (N + 4)) (M := 8) (sR_len (gr_len (sR_len (gr_len (sR_len (gr_len (sR_len (gr_len hN)))))))) rfl (by decide) ⟨Nat.le_of_ble_eq_true rfl, Nat.le_of_ble_eq_true rfl⟩ dX3_init_40 ?_
  refine go_pF 6 (i := 6) f_X3_25 rfl rfl rfl (gr_at (sR_at (gr_at (sR_at (gr_at (sR_at (gr_at (sR_at (gr_at hc))))))))) dX3_init_42 ?_
  refine go_aload_n 0 dX3_init_45 rfl rfl ?_
  refine go_iconst dX3_init_46 ?_
  refine go_putI 7 (i := 7) (by decide) f_X3_28 rfl (sR_at (gr_at (sR_at (gr_at (sR_at (gr_at (sR_at (gr_at (sR_at (gr_at hc)))))))))) dX3_init_47 ?_
  refine go_aload_n 0 dX3_init_50 rfl rfl ?_
  refine go_aload_n 1 dX3_init_51 rfl rfl ?_
  refine go_pF 0 (i := 0) f_X3_32 rfl rfl rfl (sR_at (gr_at (sR_at (gr_at (sR_at (gr_at (sR_at (gr_at (sR_at (gr_at hc)))))))))) dX3_init_52 ?_
  refine go_aload_n 0 dX3_init_55 rfl rfl ?_
  refine go_aload_n 2 dX3_init_56 rfl rfl ?_
  refine go_pF 1 (i := 1) f_X3_36 rfl rfl rfl (sR_at (sR_at (gr_at (sR_at (gr_at (sR_at (gr_at (sR_at (gr_at (sR_at (gr_at hc))))))))))) dX3_init_57 ?_
  exact go_return (Nat.le_of_ble_eq_true rfl) (Nat.le_of_ble_eq_true rfl) rfl dX3_init_60 ⟨rfl, rfl⟩
def g_X2_init (G : Sh) (c p q N : Nat) : Sh := (sR (sR (sR (gr G N (100, 10)) c 2 N) c 0 p) c 1 q)
def d_X2_init (D : Dm) (c N : Nat) : Dm := (upd2 (upd2 (newD D N) c 3 0) c 4 0)
theorem gl_X2_init {G : Sh} {c p q N : Nat} (hN : G.1.length = N) : (g_X2_init G c p q N).1.length = N + 1 := (sR_len (sR_len (sR_len (gr_len hN))))
theorem ga_X2_init {G : Sh} {c p q N x : Nat} {t : Tg} (hN : G.1.length = N) (hc : G.1[x]? = some t) : (g_X2_init G c p q N).1[x]? = some t := (sR_at (sR_at (sR_at (gr_at hc))))
set_option maxHeartbeats 4000000 in
set_option maxRecDepth 20000 in
theorem n_X2_init {l : Launch} {E : Ev} {G : Sh} {D : Dm} {c p q N : Nat} (hc : G.1[c]? = some (2, 5)) (hN : G.1.length = N) : Ct l E MX2_init 2 1 10 [vR E c, vR E p, vR E q] G D (fun _ G' D' => G' = g_X2_init G c p q N ∧ D' = d_X2_init D c N) := by
  refine Ct.of (by decide) (Nat.le_of_ble_eq_true rfl) ?_
  show Go l E cX2_init 3 RX2 (rmO MX2_init 1 10) (PfM MX2_init) (QfM E 2 1 10 _) 0 0 0 [(0, vR E c), (1, vR E p), (2, vR E q)] [] G D
  refine go_aload_n 0 dX2_init_0 rfl rfl ?_
  refine go_oI oi_X2 ⟨Nat.le_of_ble_eq_true rfl, Nat.le_of_ble_eq_true rfl⟩ (Nat.le_of_ble_eq_true rfl) dX2_init_1 ?_
  refine go_aload_n 0 dX2_init_4 rfl rfl ?_
  refine go_bipush dX2_init_5 (by decide) ?_
  refine go_nI (N := N) (M := 10) hN rfl (by decide) ⟨Nat.le_of_ble_eq_true rfl, Nat.le_of_ble_eq_true rfl⟩ dX2_init_7 ?_
  refine go_pF 2 (i := 2) f_X2_9 rfl rfl rfl (gr_at hc) dX2_init_9 ?_
  refine go_aload_n 0 dX2_init_12 rfl rfl ?_
  refine go_iconst dX2_init_13 ?_
  refine go_putI 3 (i := 3) (by decide) f_X2_15 rfl (sR_at (gr_at hc)) dX2_init_14 ?_
  refine go_aload_n 0 dX2_init_17 rfl rfl ?_
  refine go_iconst dX2_init_18 ?_
  refine go_putI 4 (i := 4) (by decide) f_X2_19 rfl (sR_at (gr_at hc)) dX2_init_19 ?_
  refine go_aload_n 0 dX2_init_22 rfl rfl ?_
  refine go_aload_n 1 dX2_init_23 rfl rfl ?_
  refine go_pF 0 (i := 0) f_X2_22 rfl rfl rfl (sR_at (gr_at hc)) dX2_init_24 ?_
  refine go_aload_n 0 dX2_init_27 rfl rfl ?_
  refine go_aload_n 2 dX2_init_28 rfl rfl ?_
  refine go_pF 1 (i := 1) f_X2_26 rfl rfl rfl (sR_at (sR_at (gr_at hc))) dX2_init_29 ?_
  exact go_return (Nat.le_of_ble_eq_true rfl) (Nat.le_of_ble_eq_true rfl) rfl dX2_init_32 ⟨rfl, rfl⟩
