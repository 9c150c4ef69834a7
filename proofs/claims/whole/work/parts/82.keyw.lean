/-! ===== words of the text's own methods ===== -/
theorem in_J0 : Cond.initialized RJ0 ∈ gT := wt (i := 115) (by decide +kernel) rfl
theorem in_J1 : Cond.initialized RJ1 ∈ gT := wt (i := 116) (by decide +kernel) rfl
theorem in_J3 : Cond.initialized RJ3 ∈ gT := wt (i := 117) (by decide +kernel) rfl
set_option maxRecDepth 60000 in
theorem cw_J0_length_8abf5 : Cond.code MJ0_length_8abf5.1 MJ0_length_8abf5.2.1 MJ0_length_8abf5.2.2.1 MJ0_length_8abf5.2.2.2.1 ∈ gT := wt (i := 1434) rfl rfl
theorem mk_J0_length_8abf5 : mok MJ0_length_8abf5 0 := ⟨by decide, by decide, by decide +kernel⟩
theorem im_J0_length_8abf5 : Cond.instanceMethod MJ0_length_8abf5.1 ∈ gT := wt (i := 1432) (by decide +kernel) rfl
theorem se_J0_length_8abf5 : Cond.selects MJ0_length_8abf5.1.cls MJ0_length_8abf5.1 MJ0_length_8abf5.1 ∈ gT := wt (i := 1433) (by decide +kernel) rfl
set_option maxRecDepth 60000 in
theorem cw_J0_charAt_5068e : Cond.code MJ0_charAt_5068e.1 MJ0_charAt_5068e.2.1 MJ0_charAt_5068e.2.2.1 MJ0_charAt_5068e.2.2.2.1 ∈ gT := wt (i := 1444) rfl rfl
theorem mk_J0_charAt_5068e : mok MJ0_charAt_5068e 1 := ⟨by decide, by decide, by decide +kernel⟩
theorem im_J0_charAt_5068e : Cond.instanceMethod MJ0_charAt_5068e.1 ∈ gT := wt (i := 1442) (by decide +kernel) rfl
theorem se_J0_charAt_5068e : Cond.selects MJ0_charAt_5068e.1.cls MJ0_charAt_5068e.1 MJ0_charAt_5068e.1 ∈ gT := wt (i := 1443) (by decide +kernel) rfl
set_option maxRecDepth 60000 in
theorem cw_J0_coder_7d493 : Cond.code MJ0_coder_7d493.1 MJ0_coder_7d493.2.1 MJ0_coder_7d493.2.2.1 MJ0_coder_7d493.2.2.2.1 ∈ gT := wt (i := 1438) rfl rfl
theorem mk_J0_coder_7d493 : mok MJ0_coder_7d493 0 := ⟨by decide, by decide, by decide +kernel⟩
theorem im_J0_coder_7d493 : Cond.instanceMethod MJ0_coder_7d493.1 ∈ gT := wt (i := 1436) (by decide +kernel) rfl
theorem se_J0_coder_7d493 : Cond.selects MJ0_coder_7d493.1.cls MJ0_coder_7d493.1 MJ0_coder_7d493.1 ∈ gT := wt (i := 1437) (by decide +kernel) rfl
set_option maxRecDepth 60000 in
theorem cw_J0_isLatin1_aae02 : Cond.code MJ0_isLatin1_aae02.1 MJ0_isLatin1_aae02.2.1 MJ0_isLatin1_aae02.2.2.1 MJ0_isLatin1_aae02.2.2.2.1 ∈ gT := wt (i := 1448) rfl rfl
theorem mk_J0_isLatin1_aae02 : mok MJ0_isLatin1_aae02 0 := ⟨by decide, by decide, by decide +kernel⟩
theorem im_J0_isLatin1_aae02 : Cond.instanceMethod MJ0_isLatin1_aae02.1 ∈ gT := wt (i := 1446) (by decide +kernel) rfl
theorem se_J0_isLatin1_aae02 : Cond.selects MJ0_isLatin1_aae02.1.cls MJ0_isLatin1_aae02.1 MJ0_isLatin1_aae02.1 ∈ gT := wt (i := 1447) (by decide +kernel) rfl
set_option maxRecDepth 60000 in
theorem cw_J1_charAt_3b067 : Cond.code MJ1_charAt_3b067.1 MJ1_charAt_3b067.2.1 MJ1_charAt_3b067.2.2.1 MJ1_charAt_3b067.2.2.2.1 ∈ gT := wt (i := 1451) rfl rfl
theorem mk_J1_charAt_3b067 : mok MJ1_charAt_3b067 2 := ⟨by decide, by decide, by decide +kernel⟩
theorem st_J1_charAt_3b067 : Cond.static MJ1_charAt_3b067.1 ∈ gT := wt (i := 1450) (by decide +kernel) rfl
set_option maxRecDepth 60000 in
theorem cw_J0_checkIndex_df160 : Cond.code MJ0_checkIndex_df160.1 MJ0_checkIndex_df160.2.1 MJ0_checkIndex_df160.2.2.1 MJ0_checkIndex_df160.2.2.2.1 ∈ gT := wt (i := 1454) rfl rfl
theorem mk_J0_checkIndex_df160 : mok MJ0_checkIndex_df160 2 := ⟨by decide, by decide, by decide +kernel⟩
theorem st_J0_checkIndex_df160 : Cond.static MJ0_checkIndex_df160.1 ∈ gT := wt (i := 1453) (by decide +kernel) rfl
set_option maxRecDepth 60000 in
theorem cw_J3_checkIndex_8e157 : Cond.code MJ3_checkIndex_8e157.1 MJ3_checkIndex_8e157.2.1 MJ3_checkIndex_8e157.2.2.1 MJ3_checkIndex_8e157.2.2.2.1 ∈ gT := wt (i := 1459) rfl rfl
theorem mk_J3_checkIndex_8e157 : mok MJ3_checkIndex_8e157 3 := ⟨by decide, by decide, by decide +kernel⟩
theorem st_J3_checkIndex_8e157 : Cond.static MJ3_checkIndex_8e157.1 ∈ gT := wt (i := 1458) (by decide +kernel) rfl
theorem mv_X10_144 : MwV RX10 144 MJ0_length_8abf5 0 := ⟨wt (i := 1431) (by decide +kernel) rfl, cw_J0_length_8abf5, im_J0_length_8abf5, se_J0_length_8abf5, in_J0, mk_J0_length_8abf5⟩
theorem mv_X10_150 : MwV RX10 150 MJ0_charAt_5068e 1 := ⟨wt (i := 1441) (by decide +kernel) rfl, cw_J0_charAt_5068e, im_J0_charAt_5068e, se_J0_charAt_5068e, in_J0, mk_J0_charAt_5068e⟩
theorem mv_J0_335 : MwV RJ0 335 MJ0_coder_7d493 0 := ⟨wt (i := 1435) (by decide +kernel) rfl, cw_J0_coder_7d493, im_J0_coder_7d493, se_J0_coder_7d493, in_J0, mk_J0_coder_7d493⟩
theorem mv_J0_492 : MwV RJ0 492 MJ0_isLatin1_aae02 0 := ⟨wt (i := 1445) (by decide +kernel) rfl, cw_J0_isLatin1_aae02, im_J0_isLatin1_aae02, se_J0_isLatin1_aae02, in_J0, mk_J0_isLatin1_aae02⟩
theorem ms_J0_495 : MwS RJ0 495 MJ1_charAt_3b067 2 := ⟨wt (i := 1449) (by decide +kernel) rfl, cw_J1_charAt_3b067, st_J1_charAt_3b067, in_J1, mk_J1_charAt_3b067⟩
theorem ms_J1_9 : MwS RJ1 9 MJ0_checkIndex_df160 2 := ⟨wt (i := 1452) (by decide +kernel) rfl, cw_J0_checkIndex_df160, st_J0_checkIndex_df160, in_J0, mk_J0_checkIndex_df160⟩
theorem ms_J0_1059 : MwS RJ0 1059 MJ3_checkIndex_8e157 3 := ⟨wt (i := 1457) (by decide +kernel) rfl, cw_J3_checkIndex_8e157, st_J3_checkIndex_8e157, in_J3, mk_J3_checkIndex_8e157⟩
theorem fl_J0_9 : Cond.fieldLink RJ0 9 "java/lang/String" "value" "[B" ∈ gT := wt (i := 1809) (by decide +kernel) rfl
theorem fl_J0_15 : Cond.fieldLink RJ0 15 "java/lang/String" "coder" "B" ∈ gT := wt (i := 1810) (by decide +kernel) rfl
theorem fl_J0_38 : Cond.fieldLink RJ0 38 "java/lang/String" "COMPACT_STRINGS" "Z" ∈ gT := wt (i := 1439) (by decide +kernel) rfl
theorem fl_J0_1053 : Cond.fieldLink RJ0 1053 "jdk/internal/util/Preconditions" "SIOOBE_FORMATTER" "Ljava/util/function/BiFunction;" ∈ gT := wt (i := 1455) (by decide +kernel) rfl
