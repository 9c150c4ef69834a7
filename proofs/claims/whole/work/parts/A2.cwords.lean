/-! ===== words of the constructors ===== -/
theorem oi_X8 : OI RX8 3 := ⟨wt (i := 133) (by decide +kernel) rfl, wt (i := 126) (by decide +kernel) rfl, wt (i := 127) rfl rfl⟩
theorem oi_X7 : OI RX7 3 := ⟨wt (i := 252) (by decide +kernel) rfl, wt (i := 126) (by decide +kernel) rfl, wt (i := 127) rfl rfl⟩
theorem cl_X7_9 : Cond.classLink RX7 9 "[[J" ∈ gT := wt (i := 253) (by decide +kernel) rfl
theorem oi_X6 : OI RX6 3 := ⟨wt (i := 274) (by decide +kernel) rfl, wt (i := 126) (by decide +kernel) rfl, wt (i := 127) rfl rfl⟩
theorem nw_X6_19 : NW RX6 19 8 17 := ⟨RX8, TX8, tyX8, rfl, wt (i := 275) (by decide +kernel) rfl, wt (i := 129) (by decide +kernel) rfl, in_X8, uw8, tyX8_ok, by decide, by decide⟩
set_option maxRecDepth 60000 in
theorem cw_X8_init : Cond.code MX8_init.1 MX8_init.2.1 MX8_init.2.2.1 MX8_init.2.2.2.1 ∈ gT := wt (i := 132) rfl rfl
theorem mk_X8_init : mok MX8_init 0 := ⟨by decide, by decide, by decide +kernel⟩
theorem im_X8_init : Cond.instanceMethod MX8_init.1 ∈ gT := wt (i := 131) (by decide +kernel) rfl
theorem mi_X6_21 : MwN RX6 21 MX8_init 0 := ⟨fun s h => h.2.2.2.1, cw_X8_init, im_X8_init, in_X8, rfl, rfl, mk_X8_init⟩
theorem oi_X5 : OI RX5 3 := ⟨wt (i := 333) (by decide +kernel) rfl, wt (i := 126) (by decide +kernel) rfl, wt (i := 127) rfl rfl⟩
theorem oi_X1 : OI RX1 3 := ⟨wt (i := 377) (by decide +kernel) rfl, wt (i := 126) (by decide +kernel) rfl, wt (i := 127) rfl rfl⟩
theorem oi_X0 : OI RX0 3 := ⟨wt (i := 410) (by decide +kernel) rfl, wt (i := 126) (by decide +kernel) rfl, wt (i := 127) rfl rfl⟩
theorem oi_X4 : OI RX4 3 := ⟨wt (i := 429) (by decide +kernel) rfl, wt (i := 126) (by decide +kernel) rfl, wt (i := 127) rfl rfl⟩
theorem oi_X3 : OI RX3 3 := ⟨wt (i := 452) (by decide +kernel) rfl, wt (i := 126) (by decide +kernel) rfl, wt (i := 127) rfl rfl⟩
theorem oi_X2 : OI RX2 3 := ⟨wt (i := 485) (by decide +kernel) rfl, wt (i := 126) (by decide +kernel) rfl, wt (i := 127) rfl rfl⟩
theorem oi_X9 : OI RX9 1 := ⟨wt (i := 125) (by decide +kernel) rfl, wt (i := 126) (by decide +kernel) rfl, wt (i := 127) rfl rfl⟩
theorem nw_X9_7 : NW RX9 7 8 17 := ⟨RX8, TX8, tyX8, rfl, wt (i := 128) (by decide +kernel) rfl, wt (i := 129) (by decide +kernel) rfl, in_X8, uw8, tyX8_ok, by decide, by decide⟩
theorem mi_X9_9 : MwN RX9 9 MX8_init 0 := ⟨fun s h => h.1, cw_X8_init, im_X8_init, in_X8, rfl, rfl, mk_X8_init⟩
theorem cl_X9_7 : Cond.classLink RX9 7 "HailHill$Village" ∈ gT := wt (i := 128) (by decide +kernel) rfl
theorem nw_X9_24 : NW RX9 24 7 3 := ⟨RX7, TX7, tyX7, rfl, wt (i := 247) (by decide +kernel) rfl, wt (i := 248) (by decide +kernel) rfl, in_X7, uw7, tyX7_ok, by decide, by decide⟩
set_option maxRecDepth 60000 in
theorem cw_X7_init : Cond.code MX7_init.1 MX7_init.2.1 MX7_init.2.2.1 MX7_init.2.2.2.1 ∈ gT := wt (i := 251) rfl rfl
theorem mk_X7_init : mok MX7_init 0 := ⟨by decide, by decide, by decide +kernel⟩
theorem im_X7_init : Cond.instanceMethod MX7_init.1 ∈ gT := wt (i := 250) (by decide +kernel) rfl
theorem mi_X9_26 : MwN RX9 26 MX7_init 0 := ⟨fun s h => h.2.1, cw_X7_init, im_X7_init, in_X7, rfl, rfl, mk_X7_init⟩
theorem nw_X9_31 : NW RX9 31 6 15 := ⟨RX6, TX6, tyX6, rfl, wt (i := 269) (by decide +kernel) rfl, wt (i := 270) (by decide +kernel) rfl, in_X6, uw6, tyX6_ok, by decide, by decide⟩
set_option maxRecDepth 60000 in
theorem cw_X6_init : Cond.code MX6_init.1 MX6_init.2.1 MX6_init.2.2.1 MX6_init.2.2.2.1 ∈ gT := wt (i := 273) rfl rfl
theorem mk_X6_init : mok MX6_init 0 := ⟨by decide, by decide, by decide +kernel⟩
theorem im_X6_init : Cond.instanceMethod MX6_init.1 ∈ gT := wt (i := 272) (by decide +kernel) rfl
theorem mi_X9_33 : MwN RX9 33 MX6_init 0 := ⟨fun s h => h.2.2.1, cw_X6_init, im_X6_init, in_X6, rfl, rfl, mk_X6_init⟩
theorem nw_X9_38 : NW RX9 38 5 10 := ⟨RX5, TX5, tyX5, rfl, wt (i := 328) (by decide +kernel) rfl, wt (i := 329) (by decide +kernel) rfl, in_X5, uw5, tyX5_ok, by decide, by decide⟩
set_option maxRecDepth 60000 in
theorem cw_X5_init : Cond.code MX5_init.1 MX5_init.2.1 MX5_init.2.2.1 MX5_init.2.2.2.1 ∈ gT := wt (i := 332) rfl rfl
theorem mk_X5_init : mok MX5_init 1 := ⟨by decide, by decide, by decide +kernel⟩
theorem im_X5_init : Cond.instanceMethod MX5_init.1 ∈ gT := wt (i := 331) (by decide +kernel) rfl
theorem mi_X9_40 : MwI RX9 40 MX5_init 1 := ⟨wt (i := 330) (by decide +kernel) rfl, cw_X5_init, im_X5_init, in_X5, rfl, rfl, mk_X5_init⟩
theorem nw_X9_47 : NW RX9 47 1 8 := ⟨RX1, TX1, tyX1, rfl, wt (i := 372) (by decide +kernel) rfl, wt (i := 373) (by decide +kernel) rfl, in_X1, uw1, tyX1_ok, by decide, by decide⟩
set_option maxRecDepth 60000 in
theorem cw_X1_init : Cond.code MX1_init.1 MX1_init.2.1 MX1_init.2.2.1 MX1_init.2.2.2.1 ∈ gT := wt (i := 376) rfl rfl
theorem mk_X1_init : mok MX1_init 2 := ⟨by decide, by decide, by decide +kernel⟩
theorem im_X1_init : Cond.instanceMethod MX1_init.1 ∈ gT := wt (i := 375) (by decide +kernel) rfl
theorem mi_X9_49 : MwI RX9 49 MX1_init 2 := ⟨wt (i := 374) (by decide +kernel) rfl, cw_X1_init, im_X1_init, in_X1, rfl, rfl, mk_X1_init⟩
theorem nw_X9_56 : NW RX9 56 0 4 := ⟨RX0, TX0, tyX0, rfl, wt (i := 405) (by decide +kernel) rfl, wt (i := 406) (by decide +kernel) rfl, in_X0, uw0, tyX0_ok, by decide, by decide⟩
set_option maxRecDepth 60000 in
theorem cw_X0_init : Cond.code MX0_init.1 MX0_init.2.1 MX0_init.2.2.1 MX0_init.2.2.2.1 ∈ gT := wt (i := 409) rfl rfl
theorem mk_X0_init : mok MX0_init 2 := ⟨by decide, by decide, by decide +kernel⟩
theorem im_X0_init : Cond.instanceMethod MX0_init.1 ∈ gT := wt (i := 408) (by decide +kernel) rfl
theorem mi_X9_58 : MwI RX9 58 MX0_init 2 := ⟨wt (i := 407) (by decide +kernel) rfl, cw_X0_init, im_X0_init, in_X0, rfl, rfl, mk_X0_init⟩
theorem nw_X9_63 : NW RX9 63 4 5 := ⟨RX4, TX4, tyX4, rfl, wt (i := 424) (by decide +kernel) rfl, wt (i := 425) (by decide +kernel) rfl, in_X4, uw4, tyX4_ok, by decide, by decide⟩
set_option maxRecDepth 60000 in
theorem cw_X4_init : Cond.code MX4_init.1 MX4_init.2.1 MX4_init.2.2.1 MX4_init.2.2.2.1 ∈ gT := wt (i := 428) rfl rfl
theorem mk_X4_init : mok MX4_init 2 := ⟨by decide, by decide, by decide +kernel⟩
theorem im_X4_init : Cond.instanceMethod MX4_init.1 ∈ gT := wt (i := 427) (by decide +kernel) rfl
theorem mi_X9_65 : MwI RX9 65 MX4_init 2 := ⟨wt (i := 426) (by decide +kernel) rfl, cw_X4_init, im_X4_init, in_X4, rfl, rfl, mk_X4_init⟩
theorem nw_X9_70 : NW RX9 70 3 8 := ⟨RX3, TX3, tyX3, rfl, wt (i := 447) (by decide +kernel) rfl, wt (i := 448) (by decide +kernel) rfl, in_X3, uw3, tyX3_ok, by decide, by decide⟩
set_option maxRecDepth 60000 in
theorem cw_X3_init : Cond.code MX3_init.1 MX3_init.2.1 MX3_init.2.2.1 MX3_init.2.2.2.1 ∈ gT := wt (i := 451) rfl rfl
theorem mk_X3_init : mok MX3_init 2 := ⟨by decide, by decide, by decide +kernel⟩
theorem im_X3_init : Cond.instanceMethod MX3_init.1 ∈ gT := wt (i := 450) (by decide +kernel) rfl
theorem mi_X9_72 : MwI RX9 72 MX3_init 2 := ⟨wt (i := 449) (by decide +kernel) rfl, cw_X3_init, im_X3_init, in_X3, rfl, rfl, mk_X3_init⟩
theorem nw_X9_77 : NW RX9 77 2 5 := ⟨RX2, TX2, tyX2, rfl, wt (i := 480) (by decide +kernel) rfl, wt (i := 481) (by decide +kernel) rfl, in_X2, uw2, tyX2_ok, by decide, by decide⟩
set_option maxRecDepth 60000 in
theorem cw_X2_init : Cond.code MX2_init.1 MX2_init.2.1 MX2_init.2.2.1 MX2_init.2.2.2.1 ∈ gT := wt (i := 484) rfl rfl
theorem mk_X2_init : mok MX2_init 2 := ⟨by decide, by decide, by decide +kernel⟩
theorem im_X2_init : Cond.instanceMethod MX2_init.1 ∈ gT := wt (i := 483) (by decide +kernel) rfl
theorem mi_X9_79 : MwI RX9 79 MX2_init 2 := ⟨wt (i := 482) (by decide +kernel) rfl, cw_X2_init, im_X2_init, in_X2, rfl, rfl, mk_X2_init⟩
theorem oi_X10 : OI RX10 1 := ⟨wt (i := 1230) (by decide +kernel) rfl, wt (i := 126) (by decide +kernel) rfl, wt (i := 127) rfl rfl⟩
theorem k_X10_59 : Cond.constant RX10 59 (Int32.ofInt 49152) ∈ gT := wt (i := 1231) (by decide +kernel) rfl
theorem nw_L_7 : NW RL 7 9 17 := ⟨RX9, TX9, tyX9, rfl, wt (i := 120) (by decide +kernel) rfl, wt (i := 121) (by decide +kernel) rfl, in_X9, uw9, tyX9_ok, by decide, by decide⟩
theorem nw_L_10 : NW RL 10 10 38 := ⟨RX10, TX10, tyX10, rfl, wt (i := 1225) (by decide +kernel) rfl, wt (i := 1226) (by decide +kernel) rfl, in_X10, uw10, tyX10_ok, by decide, by decide⟩
set_option maxRecDepth 60000 in
theorem cw_X9_init : Cond.code MX9_init.1 MX9_init.2.1 MX9_init.2.2.1 MX9_init.2.2.2.1 ∈ gT := wt (i := 124) rfl rfl
theorem mk_X9_init : mok MX9_init 0 := ⟨by decide, by decide, by decide +kernel⟩
theorem im_X9_init : Cond.instanceMethod MX9_init.1 ∈ gT := wt (i := 123) (by decide +kernel) rfl
theorem mi_L_9 : MwI RL 9 MX9_init 0 := ⟨wt (i := 122) (by decide +kernel) rfl, cw_X9_init, im_X9_init, in_X9, rfl, rfl, mk_X9_init⟩
set_option maxRecDepth 60000 in
theorem cw_X10_init : Cond.code MX10_init.1 MX10_init.2.1 MX10_init.2.2.1 MX10_init.2.2.2.1 ∈ gT := wt (i := 1229) rfl rfl
theorem mk_X10_init : mok MX10_init 0 := ⟨by decide, by decide, by decide +kernel⟩
theorem im_X10_init : Cond.instanceMethod MX10_init.1 ∈ gT := wt (i := 1228) (by decide +kernel) rfl
theorem mi_L_12 : MwI RL 12 MX10_init 0 := ⟨wt (i := 1227) (by decide +kernel) rfl, cw_X10_init, im_X10_init, in_X10, rfl, rfl, mk_X10_init⟩
