theorem s_J6_bitCount_0f7a4 {l : Launch} {E : Ev} {Q : Int → Sh → Dm → Prop} {G : Sh} {D : Dm} (hL : Lay G) {v0 : Int}  (h : Q (iA (((iA (((iA (v0 - (iA (iUs v0 1) 1431655765)) 858993459) + (iA (iUs (v0 - (iA (iUs v0 1) 1431655765)) 2) 858993459)) + (iUs ((iA (v0 - (iA (iUs v0 1) 1431655765)) 858993459) + (iA (iUs (v0 - (iA (iUs v0 1) 1431655765)) 2) 858993459)) 4)) 252645135) + (iUs (iA (((iA (v0 - (iA (iUs v0 1) 1431655765)) 858993459) + (iA (iUs (v0 - (iA (iUs v0 1) 1431655765)) 2) 858993459)) + (iUs ((iA (v0 - (iA (iUs v0 1) 1431655765)) 858993459) + (iA (iUs (v0 - (iA (iUs v0 1) 1431655765)) 2) 858993459)) 4)) 252645135) 8)) + (iUs ((iA (((iA (v0 - (iA (iUs v0 1) 1431655765)) 858993459) + (iA (iUs (v0 - (iA (iUs v0 1) 1431655765)) 2) 858993459)) + (iUs ((iA (v0 - (iA (iUs v0 1) 1431655765)) 858993459) + (iA (iUs (v0 - (iA (iUs v0 1) 1431655765)) 2) 858993459)) 4)) 252645135) + (iUs (iA (((iA (v0 - (iA (iUs v0 1) 1431655765)) 858993459) + (iA (iUs (v0 - (iA (iUs v0 1) 1431655765)) 2) 858993459)) + (iUs ((iA (v0 - (iA (iUs v0 1) 1431655765)) 858993459) + (iA (iUs (v0 - (iA (iUs v0 1) 1431655765)) 2) 858993459)) 4)) 252645135) 8)) 16)) 63) G D) : Ct l E MJ6_bitCount_0f7a4 0 0 0 [vI v0] G D Q := by
  refine Ct.of (by decide) (Nat.le_of_ble_eq_true rfl) ?_
  show KJ6_bitCount_0f7a4 l E Q 0 [(0, vI v0)] G D
  refine go_iload_n 0 dJ6_bitCount_0f7a4_0 rfl rfl ?_
  refine go_iload_n 0 dJ6_bitCount_0f7a4_1 rfl rfl ?_
  refine go_iconst dJ6_bitCount_0f7a4_2 ?_
  refine go_iushr dJ6_bitCount_0f7a4_3 ?_
  refine go_ldcw (x := 1431655765) k_J6_265 dJ6_bitCount_0f7a4_4 ?_
  refine go_iand dJ6_bitCount_0f7a4_7 ?_
  refine go_isub dJ6_bitCount_0f7a4_8 ?_
  refine go_istore_n [0] (L' := [(0, vI (v0 - (iA (iUs v0 1) 1431655765)))]) dJ6_bitCount_0f7a4_9 rfl (by decide) rfl ?_
  refine go_iload_n 0 dJ6_bitCount_0f7a4_10 rfl rfl ?_
  refine go_ldcw (x := 858993459) k_J6_266 dJ6_bitCount_0f7a4_11 ?_
  refine go_iand dJ6_bitCount_0f7a4_14 ?_
  refine go_iload_n 0 dJ6_bitCount_0f7a4_15 rfl rfl ?_
  refine go_iconst dJ6_bitCount_0f7a4_16 ?_
  refine go_iushr dJ6_bitCount_0f7a4_17 ?_
  refine go_ldcw (x := 858993459) k_J6_266 dJ6_bitCount_0f7a4_18 ?_
  refine go_iand dJ6_bitCount_0f7a4_21 ?_
  refine go_iadd dJ6_bitCount_0f7a4_22 ?_
  refine go_istore_n [0] (L' := [(0, vI ((iA (v0 - (iA (iUs v0 1) 1431655765)) 858993459) + (iA (iUs (v0 - (iA (iUs v0 1) 1431655765)) 2) 858993459)))]) dJ6_bitCount_0f7a4_23 rfl (by decide) rfl ?_
  refine go_iload_n 0 dJ6_bitCount_0f7a4_24 rfl rfl ?_
  refine go_iload_n 0 dJ6_bitCount_0f7a4_25 rfl rfl ?_
  refine go_iconst dJ6_bitCount_0f7a4_26 ?_
  refine go_iushr dJ6_bitCount_0f7a4_27 ?_
  refine go_iadd dJ6_bitCount_0f7a4_28 ?_
  refine go_ldcw (x := 252645135) k_J6_267 dJ6_bitCount_0f7a4_29 ?_
  refine go_iand dJ6_bitCount_0f7a4_32 ?_
  refine go_istore_n [0] (L' := [(0, vI (iA (((iA (v0 - (iA (iUs v0 1) 1431655765)) 858993459) + (iA (iUs (v0 - (iA (iUs v0 1) 1431655765)) 2) 858993459)) + (iUs ((iA (v0 - (iA (iUs v0 1) 1431655765)) 858993459) + (iA (iUs (v0 - (iA (iUs v0 1) 1431655765)) 2) 858993459)) 4)) 252645135))]) dJ6_bitCount_0f7a4_33 rfl (by decide) rfl ?_
  refine go_iload_n 0 dJ6_bitCount_0f7a4_34 rfl rfl ?_
  refine go_iload_n 0 dJ6_bitCount_0f7a4_35 rfl rfl ?_
  refine go_bipush dJ6_bitCount_0f7a4_36 (by decide) ?_
  refine go_iushr dJ6_bitCount_0f7a4_38 ?_
  refine go_iadd dJ6_bitCount_0f7a4_39 ?_
  refine go_istore_n [0] (L' := [(0, vI ((iA (((iA (v0 - (iA (iUs v0 1) 1431655765)) 858993459) + (iA (iUs (v0 - (iA (iUs v0 1) 1431655765)) 2) 858993459)) + (iUs ((iA (v0 - (iA (iUs v0 1) 1431655765)) 858993459) + (iA (iUs (v0 - (iA (iUs v0 1) 1431655765)) 2) 858993459)) 4)) 252645135) + (iUs (iA (((iA (v0 - (iA (iUs v0 1) 1431655765)) 858993459) + (iA (iUs (v0 - (iA (iUs v0 1) 1431655765)) 2) 858993459)) + (iUs ((iA (v0 - (iA (iUs v0 1) 1431655765)) 858993459) + (iA (iUs (v0 - (iA (iUs v0 1) 1431655765)) 2) 858993459)) 4)) 252645135) 8)))]) dJ6_bitCount_0f7a4_40 rfl (by decide) rfl ?_
  refine go_iload_n 0 dJ6_bitCount_0f7a4_41 rfl rfl ?_
  refine go_iload_n 0 dJ6_bitCount_0f7a4_42 rfl rfl ?_
  refine go_bipush dJ6_bitCount_0f7a4_43 (by decide) ?_
  refine go_iushr dJ6_bitCount_0f7a4_45 ?_
  refine go_iadd dJ6_bitCount_0f7a4_46 ?_
  refine go_istore_n [0] (L' := [(0, vI (((iA (((iA (v0 - (iA (iUs v0 1) 1431655765)) 858993459) + (iA (iUs (v0 - (iA (iUs v0 1) 1431655765)) 2) 858993459)) + (iUs ((iA (v0 - (iA (iUs v0 1) 1431655765)) 858993459) + (iA (iUs (v0 - (iA (iUs v0 1) 1431655765)) 2) 858993459)) 4)) 252645135) + (iUs (iA (((iA (v0 - (iA (iUs v0 1) 1431655765)) 858993459) + (iA (iUs (v0 - (iA (iUs v0 1) 1431655765)) 2) 858993459)) + (iUs ((iA (v0 - (iA (iUs v0 1) 1431655765)) 858993459) + (iA (iUs (v0 - (iA (iUs v0 1) 1431655765)) 2) 858993459)) 4)) 252645135) 8)) + (iUs ((iA (((iA (v0 - (iA (iUs v0 1) 1431655765)) 858993459) + (iA (iUs (v0 - (iA (iUs v0 1) 1431655765)) 2) 858993459)) + (iUs ((iA (v0 - (iA (iUs v0 1) 1431655765)) 858993459) + (iA (iUs (v0 - (iA (iUs v0 1) 1431655765)) 2) 858993459)) 4)) 252645135) + (iUs (iA (((iA (v0 - (iA (iUs v0 1) 1431655765)) 858993459) + (iA (iUs (v0 - (iA (iUs v0 1) 1431655765)) 2) 858993459)) + (iUs ((iA (v0 - (iA (iUs v0 1) 1431655765)) 858993459) + (iA (iUs (v0 - (iA (iUs v0 1) 1431655765)) 2) 858993459)) 4)) 252645135) 8)) 16)))]) dJ6_bitCount_0f7a4_47 rfl (by decide) rfl ?_
  refine go_iload_n 0 dJ6_bitCount_0f7a4_48 rfl rfl ?_
  refine go_bipush dJ6_bitCount_0f7a4_49 (by decide) ?_
  refine go_iand dJ6_bitCount_0f7a4_51 ?_
  exact go_ireturn (Nat.le_refl _) (Nat.le_refl _) rfl dJ6_bitCount_0f7a4_52 h
