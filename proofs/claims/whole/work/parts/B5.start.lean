/-! ===== what the law finds at its start ===== -/
abbrev fl1 : List Jvm.Cond := flatC (Jvm.Cond.and given_1 narrow_1)
abbrev nnT : Jvm.Term := .static "HailHill$Scribe" "NO_NAMES" "[J"
abbrev ksTm : Jvm.Term := .field (.string "HailHillModel" 142) "java/lang/String" "value" "[B"
theorem nn_in : ∀ j : Fin 15, Jvm.Cond.eq (.elem nnT (.int (Int32.ofNat j.val))) (.long (Int64.ofInt (nnL.getD j.val 0))) ∈ fl1 := by decide +kernel
theorem ks_in : ∀ j : Fin 75, Jvm.Cond.eq (.elem ksTm (.int (Int32.ofNat j.val))) (.int ((ksB.map Int32.ofInt).getD j.val 0)) ∈ fl1 := by decide +kernel
theorem nn_a : Jvm.Cond.arrayOf nnT .long ∈ fl1 := by decide +kernel
theorem nn_l : Jvm.Cond.eq (.length nnT) (.int (Int32.ofNat 15)) ∈ fl1 := by decide +kernel
theorem cs_e : Jvm.Cond.eq (.static "java/lang/String" "COMPACT_STRINGS" "Z") (.int 1) ∈ fl1 := by decide +kernel
theorem si_r : Jvm.Cond.isRef (.static "jdk/internal/util/Preconditions" "SIOOBE_FORMATTER" "Ljava/util/function/BiFunction;") ∈ fl1 := by decide +kernel
theorem ks_x : Jvm.Cond.exactly (.string "HailHillModel" 142) "java/lang/String" ∈ fl1 := by decide +kernel
theorem ks_d : Jvm.Cond.eq (.field (.string "HailHillModel" 142) "java/lang/String" "coder" "B") (.int 0) ∈ fl1 := by decide +kernel
theorem ks_y : Jvm.Cond.arrayOf ksTm .byte ∈ fl1 := by decide +kernel
theorem ks_ll : Jvm.Cond.eq (.length ksTm) (.int (Int32.ofNat 75)) ∈ fl1 := by decide +kernel
theorem ao_arr {s : State} {cA comp : ClassId} {kA : Class} {ty : FieldType} (h2 : s.vm.classes[cA]? = some kA) (h3 : kA.kind = .array comp ty) : ArrOfT s cA ty := fun n z => ⟨fun k h => (by cases h), kA, h2, comp, h3⟩
theorem start_cl {s : State} {b : Nat} (hts : ∀ w ∈ lw_tbl, w.before #[Value.ref b] s = true) : ∃ D : va_G, ∀ (c : Nat) (q : vw_C), vwCl[c]? = some q → u_Kn s q.1 q.2.1 q.2.2 (D.1 c) (D.2 c) := by
  have hg : ∀ w ∈ gT, w.before #[Value.ref b] s = true := fun w hw => hts w (List.mem_filter.mp hw).1
  have h : ∀ c : Nat, ∃ d : ClassId × (Nat → Nat), ∀ q : vw_C, vwCl[c]? = some q → u_Kn s q.1 q.2.1 q.2.2 d.1 d.2 := by
    intro c
    by_cases hc : c < 11
    · rcases (show c = 0 ∨ c = 1 ∨ c = 2 ∨ c = 3 ∨ c = 4 ∨ c = 5 ∨ c = 6 ∨ c = 7 ∨ c = 8 ∨ c = 9 ∨ c = 10 by omega) with rfl | rfl | rfl | rfl | rfl | rfl | rfl | rfl | rfl | rfl | rfl
      · obtain ⟨a, i, h⟩ := u_known (C := RX0) (T := TX0) (N := 4) (n := 4) hg uw0 (hts _ (List.mem_of_getElem? (i := 406) (show lw_tbl[406]? = some (Cond.instantiable RX0 4) by decide +kernel)))
        exact ⟨(a, i), fun q hq => by cases hq; exact h⟩
      · obtain ⟨a, i, h⟩ := u_known (C := RX1) (T := TX1) (N := 8) (n := 8) hg uw1 (hts _ (List.mem_of_getElem? (i := 373) (show lw_tbl[373]? = some (Cond.instantiable RX1 8) by decide +kernel)))
        exact ⟨(a, i), fun q hq => by cases hq; exact h⟩
      · obtain ⟨a, i, h⟩ := u_known (C := RX2) (T := TX2) (N := 5) (n := 5) hg uw2 (hts _ (List.mem_of_getElem? (i := 481) (show lw_tbl[481]? = some (Cond.instantiable RX2 5) by decide +kernel)))
        exact ⟨(a, i), fun q hq => by cases hq; exact h⟩
      · obtain ⟨a, i, h⟩ := u_known (C := RX3) (T := TX3) (N := 8) (n := 8) hg uw3 (hts _ (List.mem_of_getElem? (i := 448) (show lw_tbl[448]? = some (Cond.instantiable RX3 8) by decide +kernel)))
        exact ⟨(a, i), fun q hq => by cases hq; exact h⟩
      · obtain ⟨a, i, h⟩ := u_known (C := RX4) (T := TX4) (N := 5) (n := 5) hg uw4 (hts _ (List.mem_of_getElem? (i := 425) (show lw_tbl[425]? = some (Cond.instantiable RX4 5) by decide +kernel)))
        exact ⟨(a, i), fun q hq => by cases hq; exact h⟩
      · obtain ⟨a, i, h⟩ := u_known (C := RX5) (T := TX5) (N := 10) (n := 10) hg uw5 (hts _ (List.mem_of_getElem? (i := 329) (show lw_tbl[329]? = some (Cond.instantiable RX5 10) by decide +kernel)))
        exact ⟨(a, i), fun q hq => by cases hq; exact h⟩
      · obtain ⟨a, i, h⟩ := u_known (C := RX6) (T := TX6) (N := 15) (n := 15) hg uw6 (hts _ (List.mem_of_getElem? (i := 270) (show lw_tbl[270]? = some (Cond.instantiable RX6 15) by decide +kernel)))
        exact ⟨(a, i), fun q hq => by cases hq; exact h⟩
      · obtain ⟨a, i, h⟩ := u_known (C := RX7) (T := TX7) (N := 3) (n := 3) hg uw7 (hts _ (List.mem_of_getElem? (i := 248) (show lw_tbl[248]? = some (Cond.instantiable RX7 3) by decide +kernel)))
        exact ⟨(a, i), fun q hq => by cases hq; exact h⟩
      · obtain ⟨a, i, h⟩ := u_known (C := RX8) (T := TX8) (N := 17) (n := 17) hg uw8 (hts _ (List.mem_of_getElem? (i := 129) (show lw_tbl[129]? = some (Cond.instantiable RX8 17) by decide +kernel)))
        exact ⟨(a, i), fun q hq => by cases hq; exact h⟩
      · obtain ⟨a, i, h⟩ := u_known (C := RX9) (T := TX9) (N := 17) (n := 17) hg uw9 (hts _ (List.mem_of_getElem? (i := 121) (show lw_tbl[121]? = some (Cond.instantiable RX9 17) by decide +kernel)))
        exact ⟨(a, i), fun q hq => by cases hq; exact h⟩
      · obtain ⟨a, i, h⟩ := u_known (C := RX10) (T := TX10) (N := 38) (n := 38) hg uw10 (hts _ (List.mem_of_getElem? (i := 1226) (show lw_tbl[1226]? = some (Cond.instantiable RX10 38) by decide +kernel)))
        exact ⟨(a, i), fun q hq => by cases hq; exact h⟩
    · refine ⟨(0, fun _ => 0), fun q hq => ?_⟩
      have := (List.getElem?_eq_some_iff.mp hq).1
      have hl : vwCl.length = 11 := rfl
      omega
  obtain ⟨f, hf⟩ := Classical.axiomOfChoice h
  exact ⟨(fun c => (f c).1, fun c => (f c).2), fun c q hq => hf c q hq⟩
theorem start_Km {s : State} {b : Nat} (hts : ∀ w ∈ lw_tbl, w.before #[Value.ref b] s = true) (hgv : (Jvm.Cond.and given_1 narrow_1).before #[Value.ref b] s = true) : ∃ E : Ev, E.1 = s.heap.size ∧ Km E s := by
  have hs : ∀ w ∈ fl1, w.before #[Value.ref b] s = true := flat_of_before _ hgv
  have hg : ∀ w ∈ gT, w.before #[Value.ref b] s = true := fun w hw => hts w (List.mem_filter.mp hw).1
  have hA : ∀ a : Nat, a < s.heap.size → ¬ (fun q : Nat => s.heap.size ≤ q) a := fun a h => Nat.not_le.mpr h
  have e0 : ∀ i : Nat, i < 1 → i = 0 := fun i h => by omega
  obtain ⟨V, hV⟩ := start_cl hts
  obtain ⟨cI, kI, xI, i1, i2, i3⟩ := Cond.arrayClass_spec (hg _ aw_int)
  obtain ⟨cJ, kJ, xJ, j1, j2, j3⟩ := Cond.arrayClass_spec (hg _ aw_long)
  obtain ⟨cB, kB, xB, b1, b2, b3⟩ := Cond.arrayClass_spec (hg _ aw_byte)
  obtain ⟨cZ, kZ, xZ, z1, z2, z3⟩ := Cond.arrayClass_spec (hg _ aw_bool)
  have hov := (hts _ (List.mem_of_getElem? (i := 246) (show lw_tbl[246]? = some (Cond.arrayOver (.object "HailHill$Village")) by decide +kernel)))
  have hoa := (hts _ (List.mem_of_getElem? (i := 254) (show lw_tbl[254]? = some (Cond.arrayOver (.array .long)) by decide +kernel)))
  obtain ⟨oC, oA, kO, o1, o2, o3, o4, o5⟩ := Cond.arrayOver_spec hov
  obtain ⟨rC, rA, kR, r1, r2, r3, r4, r5⟩ := arrayOverA_spec hoa
  obtain ⟨tN, t1, t2⟩ := va_Tof (args := #[Value.ref b]) (s := s) (tm := nnT) (ty := .long) (N := 15) (f := fun j => vJ (nnL.getD j 0)) (A := fun q => s.heap.size ≤ q) (by decide) (hs _ nn_a) (va_eqt (hs _ nn_l)) (fun j hj => va_eqtl (hs _ (nn_in ⟨j, hj⟩))) hA
  obtain ⟨aK, aV, k1, k2⟩ := vk_Sof (args := #[Value.ref b]) (s := s) (N := 1) (tm := fun _ => .string "HailHillModel" 142) (len := [75]) (byt := [ksB.map Int32.ofInt]) (A := fun q => s.heap.size ≤ q)
    (fun i hi => by cases e0 i hi; decide) (fun i hi => hs _ ks_x) (fun i hi => hs _ ks_d) (fun i hi => hs _ ks_y) (fun i hi => by cases e0 i hi; exact hs _ ks_ll)
    (fun i hi j hj => by cases e0 i hi; exact hs _ (ks_in ⟨j, hj⟩)) (fun i j hi hj h => absurd ((e0 i hi).trans (e0 j hj).symm) h) hA
  obtain ⟨sv, s1, s2⟩ := Cond.isRef_spec (args := #[Value.ref b]) (first := s) (o := none) (s := s) (idx := []) (hs _ si_r)
  obtain ⟨na, n3, hsv⟩ : ∃ na n3 : Nat, sv = if n3 = 0 then Value.null else .ref na := by
    cases sv with
    | ref a => exact ⟨a, 1, rfl⟩
    | null => exact ⟨0, 0, rfl⟩
    | _ => cases s2
  refine ⟨(s.heap.size, V, fun κ => if κ = 100 then cI else if κ = 101 then cJ else if κ = 102 then cB else if κ = 103 then cZ else if κ = 104 then oA else rA, tN, fun j => if j = 0 then aK 0 else if j = 1 then aV 0 else if j = 2 then na else n3), rfl, ⟨hV, ?_⟩, ⟨va_Nw.of rfl (hts _ (List.mem_of_getElem? (i := 130) (show lw_tbl[130]? = some (Cond.methodLinkNest "HailHill" 9 yX8_init "HailHill") by decide +kernel))), va_Nw.of rfl (hts _ (List.mem_of_getElem? (i := 249) (show lw_tbl[249]? = some (Cond.methodLinkNest "HailHill" 26 yX7_init "HailHill") by decide +kernel))), va_Nw.of rfl (hts _ (List.mem_of_getElem? (i := 271) (show lw_tbl[271]? = some (Cond.methodLinkNest "HailHill" 33 yX6_init "HailHill") by decide +kernel))), va_Nw.of rfl (hts _ (List.mem_of_getElem? (i := 276) (show lw_tbl[276]? = some (Cond.methodLinkNest "HailHill$Scribe" 21 yX8_init "HailHill") by decide +kernel))), va_AO.of hov, ⟨rC, rA, kR, r1, r2, r3, r4, r5⟩⟩, ?_, t2, ?_, ⟨fun i hi => ?_, fun i j hi hj _ => by omega⟩, ?_, ?_⟩
  · intro k q hq
    have hk : k < 6 := (List.getElem?_eq_some_iff.mp hq).1
    rcases (show k = 0 ∨ k = 1 ∨ k = 2 ∨ k = 3 ∨ k = 4 ∨ k = 5 by omega) with rfl | rfl | rfl | rfl | rfl | rfl <;> cases hq
    · exact ⟨ao_arr i2 i3, i1⟩
    · exact ⟨ao_arr j2 j3, j1⟩
    · exact ⟨ao_arr b2 b3, b1⟩
    · exact ⟨ao_arr z2 z3, z1⟩
    · exact ⟨ao_arr o3 o4, kO, oC, o3, o4, o1, o5⟩
    · exact ⟨ao_arr r3 r4, r5⟩
  · exact va_Zof (hts _ (List.mem_of_getElem? (i := 693) (show lw_tbl[693]? = some (Cond.laysStatic "HailHill$Scribe" "NO_NAMES" "[J") by decide +kernel))) (hg _ in_X6) t1 hA
  · exact vk_R.of (hts _ (List.mem_of_getElem? (i := 1430) (show lw_tbl[1430]? = some (Cond.stringRef "HailHillModel" 142 " strip hail frost dry blight family at gives soil to need holds takes odds ") by decide +kernel))) (k2 0 (by decide))
  · have : i = 0 := by omega
    subst this
    exact k1.1 0 (by decide)
  · exact va_Zof (hts _ (List.mem_of_getElem? (i := 1440) (show lw_tbl[1440]? = some (Cond.laysStatic "java/lang/String" "COMPACT_STRINGS" "Z") by decide +kernel))) (hts _ (List.mem_of_getElem? (i := 115) (show lw_tbl[115]? = some (Cond.initialized "java/lang/String") by decide +kernel))) (va_eqi (hs _ cs_e)) hA
  · exact va_Zof (hts _ (List.mem_of_getElem? (i := 1456) (show lw_tbl[1456]? = some (Cond.laysStatic "jdk/internal/util/Preconditions" "SIOOBE_FORMATTER" "Ljava/util/function/BiFunction;") by decide +kernel))) (hts _ (List.mem_of_getElem? (i := 117) (show lw_tbl[117]? = some (Cond.initialized "jdk/internal/util/Preconditions") by decide +kernel))) (by rw [s1, hsv]; rfl) hA
theorem whole_start {p : Program} {e : Env} {s : State} {m : MethodId} {below : List Frame} {meth : Method} {c : Code} (l : Launch) {b L : Nat} {xs : Nat → Int32} (hL : L ≤ 3584) (C0 : lw_At p s m meth c b L xs) : W p l e room_1 s m #[Value.ref b] below meth c s.heap [] 0 0 (lw_Z below #[Value.ref b] s) (entryFrame m ([Value.ref b] : List Value).toArray 4) := by
  obtain ⟨h1, h2, h3, h4, h5, h6, h7, h8, h9, h10⟩ := C0
  obtain ⟨E, hE, hK⟩ := start_Km h6 h10
  rw [lg_entry_eq]
  exact law_body (E := E) (b := b) (xs := xs) hL p e s m #[Value.ref b] below meth c s.heap [] _ h1 h2 h4 h5 (fun w hw => h6 w (List.mem_filter.mp hw).1) ⟨rfl, h7, h8, hE.symm, h3, h9⟩ hK (Nat.le_of_eq hE) va_S.rf ⟨by rw [hE]; rfl, (fun k q h => by cases h), (fun c t i h => by cases h)⟩ (lv_entry [Value.ref b] (Nat.le_of_ble_eq_true rfl))
