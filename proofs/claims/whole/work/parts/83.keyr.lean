/-! ===== the text of the key words: its length, its signs ===== -/
section GS
variable {l : Launch} {E : Ev} {cc : ByteArray} {nL : Nat} {own : String} {R : Room} {Pf : MethodId → Method → State → Array Value → Prop} {Qf : List Frame → Array Value → State → State → Prop} {k n pc : Nat} {L : List (Nat × Value)} {st : List Value} {G : Sh} {D : Dm}
theorem go_ldcS (ho : own = "HailHillModel") (hd : decode cc pc = .ok (.ldc 142, 2)) (kk : Go l E cc nL own R Pf Qf k n (pc + 2) L (.ref (E.2.2.2.2 0) :: st) G D) : Go l E cc nL own R Pf Qf k n pc L st G D := by
  intro p e s m args below meth cd H locs ls h1 h2 h3 h4 h5 h6 h7 h8 h9 h10 h11
  subst ho
  exact va_ldcS h1 h2 h4 h7.2.2.2.2.1 hd (kk p e s m args below meth cd H locs ls h1 h2 h3 h4 h5 h6 h7 h8 h9 h10 h11)
theorem go_csget {idx : Nat} (hw : Cond.fieldLink own idx "java/lang/String" "COMPACT_STRINGS" "Z" ∈ gT) (hd : decode cc pc = .ok (.getstatic idx, 3)) (kk : Go l E cc nL own R Pf Qf k n (pc + 3) L (vI 1 :: st) G D) : Go l E cc nL own R Pf Qf k n pc L st G D := by
  intro p e s m args below meth cd H locs ls h1 h2 h3 h4 h5 h6 h7 h8 h9 h10 h11
  have ev : Value.int 1 = vI 1 := congrArg Value.int (by decide)
  have hz := h7.2.2.2.2.2.2.1
  rw [ev] at hz
  exact va_gets h1 h2 hz h9 h4 (h5 _ hw) (fun x h => h) hd (kk p e s m args below meth cd H locs ls h1 h2 h3 h4 h5 h6 h7 h8 h9 h10 h11)
theorem go_siget {idx : Nat} (hw : Cond.fieldLink own idx "jdk/internal/util/Preconditions" "SIOOBE_FORMATTER" "Ljava/util/function/BiFunction;" ∈ gT) (hd : decode cc pc = .ok (.getstatic idx, 3)) (kk : Go l E cc nL own R Pf Qf k n (pc + 3) L (siV E :: st) G D) : Go l E cc nL own R Pf Qf k n pc L st G D := by
  intro p e s m args below meth cd H locs ls h1 h2 h3 h4 h5 h6 h7 h8 h9 h10 h11
  exact va_gets h1 h2 h7.2.2.2.2.2.2.2 h9 h4 (h5 _ hw) (fun x h => h) hd (kk p e s m args below meth cd H locs ls h1 h2 h3 h4 h5 h6 h7 h8 h9 h10 h11)
theorem go_svget {idx : Nat} (hw : Cond.fieldLink own idx "java/lang/String" "value" "[B" ∈ gT) (hd : decode cc pc = .ok (.getfield idx, 3)) (kk : Go l E cc nL own R Pf Qf k n (pc + 3) L (.ref (E.2.2.2.2 1) :: st) G D) : Go l E cc nL own R Pf Qf k n pc L (.ref (E.2.2.2.2 0) :: st) G D := by
  intro p e s m args below meth cd H locs ls h1 h2 h3 h4 h5 h6 h7 h8 h9 h10 h11
  exact vk_getf h1 h2 (h7.2.2.2.2.2.1.1 0 (by decide)).2.2.1 h9 h4 (h5 _ hw) (fun x h => h) hd (kk p e s m args below meth cd H locs ls h1 h2 h3 h4 h5 h6 h7 h8 h9 h10 h11)
theorem go_scget {idx : Nat} (hw : Cond.fieldLink own idx "java/lang/String" "coder" "B" ∈ gT) (hd : decode cc pc = .ok (.getfield idx, 3)) (kk : Go l E cc nL own R Pf Qf k n (pc + 3) L (vI 0 :: st) G D) : Go l E cc nL own R Pf Qf k n pc L (.ref (E.2.2.2.2 0) :: st) G D := by
  intro p e s m args below meth cd H locs ls h1 h2 h3 h4 h5 h6 h7 h8 h9 h10 h11
  have ev : Value.int 0 = vI 0 := congrArg Value.int (by decide)
  have hz := (h7.2.2.2.2.2.1.1 0 (by decide)).2.1
  rw [ev] at hz
  exact vk_getf h1 h2 hz h9 h4 (h5 _ hw) (fun x h => h) hd (kk p e s m args below meth cd H locs ls h1 h2 h3 h4 h5 h6 h7 h8 h9 h10 h11)
theorem go_sblen (hd : decode cc pc = .ok (.arraylength, 1)) (kk : Go l E cc nL own R Pf Qf k n (pc + 1) L (vI 75 :: st) G D) : Go l E cc nL own R Pf Qf k n pc L (.ref (E.2.2.2.2 1) :: st) G D := by
  intro p e s m args below meth cd H locs ls h1 h2 h3 h4 h5 h6 h7 h8 h9 h10 h11
  exact va_tlen h1 h2 (h7.2.2.2.2.2.1.1 0 (by decide)).2.2.2 h9 (v := Int32.ofInt 75) (by decide) hd (kk p e s m args below meth cd H locs ls h1 h2 h3 h4 h5 h6 h7 h8 h9 h10 h11)
theorem ks_get : ∀ j : Fin 75, (ksB.map Int32.ofInt).getD j.val 0 = Int32.ofInt (ksB.getD j.val 0) := by decide
theorem go_sbload {i : Int} (hi : 0 ≤ i ∧ i < 75) (hd : decode cc pc = .ok (.baload, 1)) (kk : Go l E cc nL own R Pf Qf k n (pc + 1) L (vI (ksB.getD i.toNat 0) :: st) G D) : Go l E cc nL own R Pf Qf k n pc L (vI i :: .ref (E.2.2.2.2 1) :: st) G D := by
  intro p e s m args below meth cd H locs ls h1 h2 h3 h4 h5 h6 h7 h8 h9 h10 h11
  have hin : vp_in (Int32.ofInt i) 75 := inI hi.1 (by omega) (by omega)
  refine va_tb h1 h2 (h7.2.2.2.2.2.1.1 0 (by decide)).2.2.2 h9 (i := Int32.ofInt i) hin ?_ hd (kk p e s m args below meth cd H locs ls h1 h2 h3 h4 h5 h6 h7 h8 h9 h10 h11)
  have hc := clI hi.1 (show i < 2147483648 by omega)
  have e1 : (Int32.ofInt i).toNatClampNeg = i.toNat := by omega
  rw [e1]
  exact congrArg Value.int (ks_get ⟨i.toNat, by omega⟩)
theorem go_i2c {x : Int} (hx : ((Int32.ofInt x).toUInt32 % 65536).toInt32 = Int32.ofInt x) (hd : decode cc pc = .ok (.i2c, 1)) (kk : Go l E cc nL own R Pf Qf k n (pc + 1) L (vI x :: st) G D) : Go l E cc nL own R Pf Qf k n pc L (vI x :: st) G D := by
  intro p e s m args below meth cd H locs ls h1 h2 h3 h4 h5 h6 h7 h8 h9 h10 h11
  exact lv_i2c h1 h2 hd hx (kk p e s m args below meth cd H locs ls h1 h2 h3 h4 h5 h6 h7 h8 h9 h10 h11)
theorem go_nreturn {M : Mt} {mc ms : Nat} {Q : Int → Sh → Dm → Prop} {x : Int} (ty : FieldType) (hk : k ≤ mc) (hn : n ≤ ms) (hr : M.2.2.2.1 = some ty) (hx : narrow ty (.int (Int32.ofInt x)) = .int (Int32.ofInt x)) (hd : decode cc pc = .ok (.ireturn, 1)) (hQ : Q x G D) : Go l E cc nL own R (PfM M) (QfM E 0 mc ms Q) k n pc L [vI x] G D := by
  intro p e s m args below meth c H locs ls h1 h2 h3 h4 h5 h6 h7 h8 h9 h10 h11
  refine W.widen hk hn ?_
  exact W.zret (ty := ty) h1 h2 (h6.1.trans hr) hx (fun t ht _ => ⟨⟨x, G, D, rfl, hQ, by rw [ht]; exact h10⟩, h9.F ht⟩) h9.2.2 hd h6.2.1
/-- a method of the text -/
theorem go_sS {M : Mt} {np idx : Nat} {P : Int → Dm → Prop} (as rest : List Value) (hw : MwV own idx M np) (hcl : M.1.cls = "java/lang/String") (hR : M.2.2.2.2.1 + 1 ≤ R.frames ∧ 8 + (M.2.2.1 + 11) + M.2.2.2.2.2 ≤ R.locals) (hf : k ≤ R.cells ∧ n ≤ R.slots) (hn : as.length = np) (hst : st = as.reverse ++ .ref (E.2.2.2.2 0) :: rest) (hcat : (rest.map fun v => v.category).sum ≤ 8) (hd : decode cc pc = .ok (.invokevirtual idx, 3))
    (hct : C0 l E M 0 (.ref (E.2.2.2.2 0) :: as) G D P) (kk : ∀ r D', P r D' → Go l E cc nL own R Pf Qf k n (pc + 3) L (vI r :: rest) G D') : Go l E cc nL own R Pf Qf k n pc L st G D := by
  refine go_run (κ := 0) (mc := 0) (ms := 0) (Q := fun r G' D' => G' = G ∧ P r D') (rest := rest) (a := (.ref (E.2.2.2.2 0) :: as).toArray) ?_ (fun r G' D' h => by obtain ⟨rfl, h⟩ := h; exact kk r D' h)
  intro p e s m args below meth cd H locs ls h1 h2 h3 h4 h5 h7 h8 h9 h10 h11
  obtain ⟨w1, w2, w3, w4, w5, w6⟩ := hw
  have hrecv := vk_recv (i := 0) h7.2.2.2.2.2.1 (by decide) h9
  rw [← hcl] at hrecv
  exact va_runV (As := as) (C := M.1.cls) (b := E.2.2.2.2 0) ⟨h1, h2, h3, h4, h5⟩ hct ⟨cbO h5 w1 w2 w5 w6 hR, h5 _ w3, h5 _ w4⟩ ⟨PcO.blind, hrecv, (pcTo (as := .ref (E.2.2.2.2 0) :: as) h7 h9 h10).2⟩ rfl hn h11.1 hst (lv_room hcat) hd hf
end GS
section
variable {l : Launch} {E : Ev} {G : Sh} {D : Dm}
theorem c_J0_coder : C0 l E MJ0_coder_7d493 0 [.ref (E.2.2.2.2 0)] G D (fun r D' => r = 0 ∧ D' = D) := by
  refine Ct.of (by decide) (Nat.le_of_ble_eq_true rfl) ?_
  show Go l E cJ0_coder_7d493 1 RJ0 (rmO MJ0_coder_7d493 0 0) (PfM MJ0_coder_7d493) (QfM E 0 0 0 _) 0 0 0 [(0, .ref (E.2.2.2.2 0))] [] G D
  refine go_csget fl_J0_38 dJ0_coder_7d493_0 ?_
  refine go_if_eq 13 dJ0_coder_7d493_3 (by decide) (by decide) (fun h => absurd h (by decide)) (fun _ => ?_)
  refine go_sload_n 0 dJ0_coder_7d493_6 rfl rfl ?_
  refine go_scget fl_J0_15 dJ0_coder_7d493_7 ?_
  refine go_goto 14 dJ0_coder_7d493_10 (by decide) ?_
  exact go_nreturn .byte (Nat.le_refl _) (Nat.le_refl _) rfl (by decide) dJ0_coder_7d493_14 ⟨rfl, rfl, rfl⟩
theorem c_J0_isLatin1 : C0 l E MJ0_isLatin1_aae02 0 [.ref (E.2.2.2.2 0)] G D (fun r D' => r = 1 ∧ D' = D) := by
  refine Ct.of (by decide) (Nat.le_of_ble_eq_true rfl) ?_
  show Go l E cJ0_isLatin1_aae02 1 RJ0 (rmO MJ0_isLatin1_aae02 0 0) (PfM MJ0_isLatin1_aae02) (QfM E 0 0 0 _) 0 0 0 [(0, .ref (E.2.2.2.2 0))] [] G D
  refine go_csget fl_J0_38 dJ0_isLatin1_aae02_0 ?_
  refine go_if_eq 17 dJ0_isLatin1_aae02_3 (by decide) (by decide) (fun h => absurd h (by decide)) (fun _ => ?_)
  refine go_sload_n 0 dJ0_isLatin1_aae02_6 rfl rfl ?_
  refine go_scget fl_J0_15 dJ0_isLatin1_aae02_7 ?_
  refine go_if_ne 17 dJ0_isLatin1_aae02_10 (by decide) (by decide) (fun h => absurd rfl h) (fun _ => ?_)
  refine go_iconst dJ0_isLatin1_aae02_13 ?_
  refine go_goto 18 dJ0_isLatin1_aae02_14 (by decide) ?_
  exact go_zreturn (Nat.le_refl _) (Nat.le_refl _) rfl (Or.inr rfl) dJ0_isLatin1_aae02_18 ⟨rfl, rfl, rfl⟩
theorem c_J0_length : C0 l E MJ0_length_8abf5 0 [.ref (E.2.2.2.2 0)] G D (fun r D' => r = 75 ∧ D' = D) := by
  refine Ct.of (by decide) (Nat.le_of_ble_eq_true rfl) ?_
  show Go l E cJ0_length_8abf5 1 RJ0 (rmO MJ0_length_8abf5 0 0) (PfM MJ0_length_8abf5) (QfM E 0 0 0 _) 0 0 0 [(0, .ref (E.2.2.2.2 0))] [] G D
  refine go_sload_n 0 dJ0_length_8abf5_0 rfl rfl ?_
  refine go_svget fl_J0_9 dJ0_length_8abf5_1 ?_
  refine go_sblen dJ0_length_8abf5_4 ?_
  refine go_sload_n 0 dJ0_length_8abf5_5 rfl rfl ?_
  refine go_sS (M := MJ0_coder_7d493) [] [vI 75] mv_J0_335 rfl ⟨Nat.le_of_ble_eq_true rfl, Nat.le_of_ble_eq_true rfl⟩ ⟨Nat.le_refl _, Nat.le_refl _⟩ rfl rfl (Nat.le_of_ble_eq_true rfl) dJ0_length_8abf5_6 c_J0_coder ?_
  rintro r D1 ⟨rfl, rfl⟩
  refine go_ishr dJ0_length_8abf5_9 ?_
  exact go_ireturn (Nat.le_refl _) (Nat.le_refl _) rfl dJ0_length_8abf5_10 ⟨rfl, by decide, rfl⟩
theorem siV_c (E : Ev) : siV E = .null ∨ ∃ a, siV E = .ref a := by
  unfold siV
  split
  · exact Or.inl rfl
  · exact Or.inr ⟨_, rfl⟩
theorem c_J3_check {i n : Int} {w : Value} (hw : w = .null ∨ ∃ a, w = .ref a) (hi : 0 ≤ i ∧ i < n) (hn : n < 2147483648) : C0 l E MJ3_checkIndex_8e157 0 [vI i, vI n, w] G D (fun r D' => r = i ∧ D' = D) := by
  rcases hw with rfl | ⟨a, rfl⟩
  · refine Ct.of (by decide) (Nat.le_of_ble_eq_true rfl) ?_
    show Go l E cJ3_checkIndex_8e157 3 RJ3 (rmO MJ3_checkIndex_8e157 0 0) (PfM MJ3_checkIndex_8e157) (QfM E 0 0 0 _) 0 0 0 [(0, vI i), (1, vI n), (2, .null)] [] G D
    refine go_iload_n 0 dJ3_checkIndex_8e157_0 rfl rfl ?_
    refine go_if_lt 9 dJ3_checkIndex_8e157_1 (by decide) (by omega) (fun h => absurd h (by omega)) (fun _ => ?_)
    refine go_iload_n 0 dJ3_checkIndex_8e157_4 rfl rfl ?_
    refine go_iload_n 1 dJ3_checkIndex_8e157_5 rfl rfl ?_
    refine go_icmp_lt 16 dJ3_checkIndex_8e157_6 (by decide) (by omega) (by omega) (fun _ => ?_) (fun h => absurd h (by omega))
    refine go_iload_n 0 dJ3_checkIndex_8e157_16 rfl rfl ?_
    exact go_ireturn (Nat.le_refl _) (Nat.le_refl _) rfl dJ3_checkIndex_8e157_17 ⟨rfl, rfl, rfl⟩
  · refine Ct.of (by decide) (Nat.le_of_ble_eq_true rfl) ?_
    show Go l E cJ3_checkIndex_8e157 3 RJ3 (rmO MJ3_checkIndex_8e157 0 0) (PfM MJ3_checkIndex_8e157) (QfM E 0 0 0 _) 0 0 0 [(0, vI i), (1, vI n), (2, .ref a)] [] G D
    refine go_iload_n 0 dJ3_checkIndex_8e157_0 rfl rfl ?_
    refine go_if_lt 9 dJ3_checkIndex_8e157_1 (by decide) (by omega) (fun h => absurd h (by omega)) (fun _ => ?_)
    refine go_iload_n 0 dJ3_checkIndex_8e157_4 rfl rfl ?_
    refine go_iload_n 1 dJ3_checkIndex_8e157_5 rfl rfl ?_
    refine go_icmp_lt 16 dJ3_checkIndex_8e157_6 (by decide) (by omega) (by omega) (fun _ => ?_) (fun h => absurd h (by omega))
    refine go_iload_n 0 dJ3_checkIndex_8e157_16 rfl rfl ?_
    exact go_ireturn (Nat.le_refl _) (Nat.le_refl _) rfl dJ3_checkIndex_8e157_17 ⟨rfl, rfl, rfl⟩
theorem c_J0_check {i n : Int} (hi : 0 ≤ i ∧ i < n) (hn : n < 2147483648) : C0 l E MJ0_checkIndex_df160 2 [vI i, vI n] G D (fun _ D' => D' = D) := by
  refine Ct.of (by decide) (Nat.le_of_ble_eq_true rfl) ?_
  show Go l E cJ0_checkIndex_df160 2 RJ0 (rmO MJ0_checkIndex_df160 0 0) (PfM MJ0_checkIndex_df160) (QfM E 2 0 0 _) 0 0 0 [(0, vI i), (1, vI n)] [] G D
  refine go_iload_n 0 dJ0_checkIndex_df160_0 rfl rfl ?_
  refine go_iload_n 1 dJ0_checkIndex_df160_1 rfl rfl ?_
  refine go_siget fl_J0_1053 dJ0_checkIndex_df160_2 ?_
  refine go_sI (M := MJ3_checkIndex_8e157) [vI i, vI n, siV E] [] ms_J0_1059 ⟨Nat.le_of_ble_eq_true rfl, Nat.le_of_ble_eq_true rfl⟩ ⟨Nat.le_refl _, Nat.le_refl _⟩ rfl rfl (Nat.le_of_ble_eq_true rfl) dJ0_checkIndex_df160_5 (c_J3_check (siV_c E) hi hn) ?_
  rintro r D1 ⟨rfl, rfl⟩
  refine go_pop rfl dJ0_checkIndex_df160_8 ?_
  exact go_return (Nat.le_refl _) (Nat.le_refl _) rfl dJ0_checkIndex_df160_9 ⟨rfl, rfl⟩
theorem ks_c : ∀ j : Fin 75, iA (ksB.getD j.val 0) 255 = ksB.getD j.val 0 ∧ ((Int32.ofInt (ksB.getD j.val 0)).toUInt32 % 65536).toInt32 = Int32.ofInt (ksB.getD j.val 0) ∧ narrow .char (.int (Int32.ofInt (ksB.getD j.val 0))) = .int (Int32.ofInt (ksB.getD j.val 0)) := by decide +kernel
theorem c_J1_charAt {i : Int} (hi : 0 ≤ i ∧ i < 75) : C0 l E MJ1_charAt_3b067 0 [.ref (E.2.2.2.2 1), vI i] G D (fun r D' => r = ksB.getD i.toNat 0 ∧ D' = D) := by
  obtain ⟨k1, k2, k3⟩ := ks_c ⟨i.toNat, by omega⟩
  refine Ct.of (by decide) (Nat.le_of_ble_eq_true rfl) ?_
  show Go l E cJ1_charAt_3b067 2 RJ1 (rmO MJ1_charAt_3b067 0 0) (PfM MJ1_charAt_3b067) (QfM E 0 0 0 _) 0 0 0 [(0, .ref (E.2.2.2.2 1)), (1, vI i)] [] G D
  refine go_iload_n 1 dJ1_charAt_3b067_0 rfl rfl ?_
  refine go_sload_n 0 dJ1_charAt_3b067_1 rfl rfl ?_
  refine go_sblen dJ1_charAt_3b067_2 ?_
  refine go_sV (M := MJ0_checkIndex_df160) [vI i, vI 75] [] ms_J1_9 ⟨Nat.le_of_ble_eq_true rfl, Nat.le_of_ble_eq_true rfl⟩ ⟨Nat.le_refl _, Nat.le_refl _⟩ rfl rfl (Nat.le_of_ble_eq_true rfl) dJ1_charAt_3b067_3 (c_J0_check hi (by decide)) ?_
  rintro - D1 rfl
  refine go_sload_n 0 dJ1_charAt_3b067_6 rfl rfl ?_
  refine go_iload_n 1 dJ1_charAt_3b067_7 rfl rfl ?_
  refine go_sbload hi dJ1_charAt_3b067_8 ?_
  refine go_sipush dJ1_charAt_3b067_9 (by decide) ?_
  refine go_iand dJ1_charAt_3b067_12 ?_
  rw [k1]
  refine go_i2c k2 dJ1_charAt_3b067_13 ?_
  exact go_nreturn .char (Nat.le_refl _) (Nat.le_refl _) rfl k3 dJ1_charAt_3b067_14 ⟨rfl, rfl, rfl⟩
theorem c_J0_charAt {i : Int} (hi : 0 ≤ i ∧ i < 75) : C0 l E MJ0_charAt_5068e 0 [.ref (E.2.2.2.2 0), vI i] G D (fun r D' => r = ksB.getD i.toNat 0 ∧ D' = D) := by
  obtain ⟨k1, k2, k3⟩ := ks_c ⟨i.toNat, by omega⟩
  refine Ct.of (by decide) (Nat.le_of_ble_eq_true rfl) ?_
  show Go l E cJ0_charAt_5068e 2 RJ0 (rmO MJ0_charAt_5068e 0 0) (PfM MJ0_charAt_5068e) (QfM E 0 0 0 _) 0 0 0 [(0, .ref (E.2.2.2.2 0)), (1, vI i)] [] G D
  refine go_sload_n 0 dJ0_charAt_5068e_0 rfl rfl ?_
  refine go_sS (M := MJ0_isLatin1_aae02) [] [] mv_J0_492 rfl ⟨Nat.le_of_ble_eq_true rfl, Nat.le_of_ble_eq_true rfl⟩ ⟨Nat.le_refl _, Nat.le_refl _⟩ rfl rfl (Nat.le_of_ble_eq_true rfl) dJ0_charAt_5068e_1 c_J0_isLatin1 ?_
  rintro r D1 ⟨rfl, rfl⟩
  refine go_if_eq 16 dJ0_charAt_5068e_4 (by decide) (by decide) (fun h => absurd h (by decide)) (fun _ => ?_)
  refine go_sload_n 0 dJ0_charAt_5068e_7 rfl rfl ?_
  refine go_svget fl_J0_9 dJ0_charAt_5068e_8 ?_
  refine go_iload_n 1 dJ0_charAt_5068e_11 rfl rfl ?_
  refine go_sI (M := MJ1_charAt_3b067) [.ref (E.2.2.2.2 1), vI i] [] ms_J0_495 ⟨Nat.le_of_ble_eq_true rfl, Nat.le_of_ble_eq_true rfl⟩ ⟨Nat.le_refl _, Nat.le_refl _⟩ rfl rfl (Nat.le_of_ble_eq_true rfl) dJ0_charAt_5068e_12 (c_J1_charAt hi) ?_
  rintro r D2 ⟨rfl, rfl⟩
  exact go_nreturn .char (Nat.le_refl _) (Nat.le_refl _) rfl k3 dJ0_charAt_5068e_15 ⟨rfl, rfl, rfl⟩
end
